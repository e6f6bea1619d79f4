abbrev W_161 : List (Nat × Nat) := [(69, 6), (69, 7), (69, 9), (69, 11), (69, 13), (73, 1000), (74, 1000)]
set_option maxHeartbeats 8000000 in
theorem th_161 {E : zE} {d : Nat} {m0 : zM} {g0 : Int} {F70 : Nat → Int} {F73 : Nat → Int} {F74 : Nat → Int} {F75 : Nat → Int} (hd : 3 ≤ d) (hI0 : zInv m0) (hg0 : m0 69 5 = g0) (hG70 : m0 70 = F70) (hG73 : m0 73 = F73) (hG74 : m0 74 = F74) (hG75 : m0 75 = F75) : zC E d 161 [(2, 69)] m0 (fun v m' => ∃ r : Int, v = (0, r) ∧ 0 ≤ r ∧ r ≤ 1 ∧ zInv m' ∧ zFr W_161 m0 m' ∧ (RV (cht F70 g0) (nmf F75) 0 1 0 [] [] (m' 69 7, m' 69 13)) ∧ ((r = 1 ∧ m' 69 7 = -1) ∨ (r = 0 ∧ m' 69 7 ≠ -1))) := by
  have hF0 : zFr W_161 m0 m0 := zFr.rfl
  have bg0 := ib_69_5 hI0
  rw [hg0] at bg0
  generalize hQ : (fun (v : zV) (m' : zM) => ∃ r : Int, v = (0, r) ∧ 0 ≤ r ∧ r ≤ 1 ∧ zInv m' ∧ zFr W_161 m0 m' ∧ (RV (cht F70 g0) (nmf F75) 0 1 0 [] [] (m' 69 7, m' 69 13)) ∧ ((r = 1 ∧ m' 69 7 = -1) ∨ (r = 0 ∧ m' 69 7 ≠ -1))) = Q
  show zW E d 161 0 [(2, 69), (9, 0), (9, 0), (9, 0), (9, 0)] [] m0 Q
  refine zw_7 zr_161_0 rfl ?_
  refine zw_push zr_161_1 ?_
  refine zw_47 (c := 69) zr_161_2 rfl ⟨rfl, by decide, rfl⟩ ?_
  intro m1 em1
  have hIm1 : zInv m1 := by rw [em1]; exact hI0.bd (r := 69) (k := 6) (lo := 0) (hi := 50) rfl (by omega) (by decide) (by decide) (by decide)
  have hFm1 : zFr W_161 m0 m1 := by rw [em1]; exact hF0.up rfl
  have km1_69_5 : m1 69 5 = g0 := by rw [em1, zUp_ne (by decide)]; exact hg0
  have km1_69_6 : m1 69 6 = 0 := by rw [em1]; exact zUp_eq _ _ _ _
  have fm1_70 : m1 70 = F70 := by rw [em1, zUp_fn (by decide)]; exact hG70
  have fm1_73 : m1 73 = F73 := by rw [em1, zUp_fn (by decide)]; exact hG73
  have fm1_74 : m1 74 = F74 := by rw [em1, zUp_fn (by decide)]; exact hG74
  have fm1_75 : m1 75 = F75 := by rw [em1, zUp_fn (by decide)]; exact hG75
  clear em1
  refine zw_7 zr_161_5 rfl ?_
  refine zw_push zr_161_6 ?_
  refine zw_47 (c := 69) zr_161_7 rfl ⟨rfl, by decide, rfl⟩ ?_
  intro m2 em2
  have hIm2 : zInv m2 := by rw [em2]; exact hIm1.any (by omega) rfl (by decide) (by decide)
  have hFm2 : zFr W_161 m0 m2 := by rw [em2]; exact hFm1.up rfl
  have km2_69_5 : m2 69 5 = g0 := by rw [em2, zUp_ne (by decide)]; exact km1_69_5
  have km2_69_6 : m2 69 6 = 0 := by rw [em2, zUp_ne (by decide)]; exact km1_69_6
  have km2_69_7 : m2 69 7 = (-1) := by rw [em2]; exact zUp_eq _ _ _ _
  have fm2_70 : m2 70 = F70 := by rw [em2, zUp_fn (by decide)]; exact fm1_70
  have fm2_73 : m2 73 = F73 := by rw [em2, zUp_fn (by decide)]; exact fm1_73
  have fm2_74 : m2 74 = F74 := by rw [em2, zUp_fn (by decide)]; exact fm1_74
  have fm2_75 : m2 75 = F75 := by rw [em2, zUp_fn (by decide)]; exact fm1_75
  clear em2
  refine zw_7 zr_161_10 rfl ?_
  refine zw_push zr_161_11 ?_
  refine zw_47 (c := 69) zr_161_12 rfl ⟨rfl, by decide, rfl⟩ ?_
  intro m3 em3
  have hIm3 : zInv m3 := by rw [em3]; exact hIm2.bd (r := 69) (k := 9) (lo := 0) (hi := 64) rfl (by omega) (by decide) (by decide) (by decide)
  have hFm3 : zFr W_161 m0 m3 := by rw [em3]; exact hFm2.up rfl
  have km3_69_5 : m3 69 5 = g0 := by rw [em3, zUp_ne (by decide)]; exact km2_69_5
  have km3_69_6 : m3 69 6 = 0 := by rw [em3, zUp_ne (by decide)]; exact km2_69_6
  have km3_69_7 : m3 69 7 = (-1) := by rw [em3, zUp_ne (by decide)]; exact km2_69_7
  have km3_69_9 : m3 69 9 = 0 := by rw [em3]; exact zUp_eq _ _ _ _
  have fm3_70 : m3 70 = F70 := by rw [em3, zUp_fn (by decide)]; exact fm2_70
  have fm3_73 : m3 73 = F73 := by rw [em3, zUp_fn (by decide)]; exact fm2_73
  have fm3_74 : m3 74 = F74 := by rw [em3, zUp_fn (by decide)]; exact fm2_74
  have fm3_75 : m3 75 = F75 := by rw [em3, zUp_fn (by decide)]; exact fm2_75
  clear em3
  refine zw_7 zr_161_15 rfl ?_
  refine zw_push zr_161_16 ?_
  refine zw_47 (c := 69) zr_161_17 rfl ⟨rfl, by decide, rfl⟩ ?_
  intro m4 em4
  have hIm4 : zInv m4 := by rw [em4]; exact hIm3.bd (r := 69) (k := 11) (lo := 0) (hi := 128) rfl (by omega) (by decide) (by decide) (by decide)
  have hFm4 : zFr W_161 m0 m4 := by rw [em4]; exact hFm3.up rfl
  have km4_69_5 : m4 69 5 = g0 := by rw [em4, zUp_ne (by decide)]; exact km3_69_5
  have km4_69_6 : m4 69 6 = 0 := by rw [em4, zUp_ne (by decide)]; exact km3_69_6
  have km4_69_7 : m4 69 7 = (-1) := by rw [em4, zUp_ne (by decide)]; exact km3_69_7
  have km4_69_9 : m4 69 9 = 0 := by rw [em4, zUp_ne (by decide)]; exact km3_69_9
  have km4_69_11 : m4 69 11 = 0 := by rw [em4]; exact zUp_eq _ _ _ _
  have fm4_70 : m4 70 = F70 := by rw [em4, zUp_fn (by decide)]; exact fm3_70
  have fm4_73 : m4 73 = F73 := by rw [em4, zUp_fn (by decide)]; exact fm3_73
  have fm4_74 : m4 74 = F74 := by rw [em4, zUp_fn (by decide)]; exact fm3_74
  have fm4_75 : m4 75 = F75 := by rw [em4, zUp_fn (by decide)]; exact fm3_75
  clear em4
  refine zw_push zr_161_20 ?_
  refine zw_9 (L' := [(2, 69), (0, 0), (9, 0), (9, 0), (9, 0)]) zr_161_21 (Nat.le_of_ble_eq_true rfl) rfl ?_
  refine zw_push zr_161_22 ?_
  refine zw_9 (L' := [(2, 69), (0, 0), (0, 1), (9, 0), (9, 0)]) zr_161_23 (Nat.le_of_ble_eq_true rfl) rfl ?_
  refine zw_push zr_161_24 ?_
  refine zw_9 (L' := [(2, 69), (0, 0), (0, 1), (0, 1), (9, 0)]) zr_161_25 (Nat.le_of_ble_eq_true rfl) rfl ?_
  have lp26_15 : ∀ (nlp26_15 : Nat) (i5 i6 i7 p9 p10 p11 p12 : Int) (f13 : Nat → Int) (f14 : Nat → Int) (m8 : zM), zInv m8 → zFr W_161 m0 m8 → m8 69 5 = g0 → m8 69 6 = p9 → m8 69 7 = p10 → m8 69 9 = p11 → m8 69 11 = p12 → m8 70 = F70 → m8 73 = f13 → m8 74 = f14 → m8 75 = F75 → 0 ≤ i5 → i5 ≤ 8 → 0 ≤ i6 → i6 ≤ 1 → 0 ≤ i7 → i7 ≤ 1 → 0 ≤ p9 → p9 ≤ 50 → (-2147483648) ≤ p10 → p10 ≤ 2147483647 → 0 ≤ p11 → p11 ≤ 64 → 0 ≤ p12 → p12 ≤ 128 → (p12 ≤ p9) → (cB f14 (p12).toNat + (1 - i6) ≤ p11) → (p11 ≤ p9 + (1 - i6)) → (i5 ≤ cP f14 (p12).toNat) → (zRdg (cht F70 g0) (nmf F75) p9 i6 i5 f14 p12 f13 p11 p10 i7) → (10 * (51 - p9) + 5 * i6 + i7 - p10).toNat < nlp26_15 → zW E (d) 161 26 [(2, 69), (0, i5), (0, i6), (0, i7), (9, 0)] [] m8 Q := by
    intro nlp26_15
    induction nlp26_15 with
    | zero =>
      intros
      exact absurd (by assumption : _ < 0) (Nat.not_lt_zero _)
    | succ nlp26_15 ihlp26_15 =>
      intro i5 i6 i7 p9 p10 p11 p12 f13 f14 m8 hIm8 hFm8 km8_69_5 km8_69_6 km8_69_7 km8_69_9 km8_69_11 fm8_70 fm8_73 fm8_74 fm8_75 li5 ui5 li6 ui6 li7 ui7 lp9 up9 lp10 up10 lp11 up11 lp12 up12 hv0lp26_15 hv1lp26_15 hv2lp26_15 hv3lp26_15 hv4lp26_15 hmlp26_15
      have z17 := cB_nn f14 (p12).toNat
      refine zw_3 zr_161_26 rfl ?_
      refine zw_40_1 zr_161_27 ?_ ?_
      · intro h18
        refine zw_7 zr_161_488 rfl ?_
        refine zw_7 zr_161_489 rfl ?_
        refine zw_46i zr_161_490 km8_69_7 rfl rfl rfl ?_
        refine zw_push zr_161_493 ?_
        refine zw_41_4 zr_161_494 ?_ ?_
        · intro h19
          refine zw_push zr_161_506 ?_
          refine zw_47 (c := 69) zr_161_507 rfl ⟨rfl, by decide, rfl⟩ ?_
          intro m20 em20
          have hIm20 : zInv m20 := by rw [em20]; exact hIm8.anyl (by omega) (by decide) rfl (by decide) (by decide)
          have hFm20 : zFr W_161 m0 m20 := by rw [em20]; exact hFm8.up rfl
          have km20_69_5 : m20 69 5 = g0 := by rw [em20, zUp_ne (by decide)]; exact km8_69_5
          have km20_69_6 : m20 69 6 = p9 := by rw [em20, zUp_ne (by decide)]; exact km8_69_6
          have km20_69_7 : m20 69 7 = p10 := by rw [em20, zUp_ne (by decide)]; exact km8_69_7
          have km20_69_9 : m20 69 9 = p11 := by rw [em20, zUp_ne (by decide)]; exact km8_69_9
          have km20_69_11 : m20 69 11 = p12 := by rw [em20, zUp_ne (by decide)]; exact km8_69_11
          have km20_69_13 : m20 69 13 = 0 := by rw [em20]; exact zUp_eq _ _ _ _
          have fm20_70 : m20 70 = F70 := by rw [em20, zUp_fn (by decide)]; exact fm8_70
          have fm20_73 : m20 73 = f13 := by rw [em20, zUp_fn (by decide)]; exact fm8_73
          have fm20_74 : m20 74 = f14 := by rw [em20, zUp_fn (by decide)]; exact fm8_74
          have fm20_75 : m20 75 = F75 := by rw [em20, zUp_fn (by decide)]; exact fm8_75
          clear em20
          refine zw_7 zr_161_510 rfl ?_
          refine zw_46i zr_161_511 km20_69_7 rfl rfl rfl ?_
          refine zw_push zr_161_514 ?_
          refine zw_41_4 zr_161_515 ?_ ?_
          · intro h21
            refine zw_push zr_161_522 ?_
            refine zw_R zr_161_523 (by decide) zm_161 (v := (0, 0)) (zRetB (by omega)) ?_
            rw [← hQ]; exact ⟨_, rfl, by omega, by omega, hIm20, hFm20, by rw [km20_69_7, km20_69_13]; first | exact zRdg_x hv4lp26_15 (by omega) (Or.inl ⟨by omega, qzz⟩) | exact zRdg_x hv4lp26_15 (by omega) (Or.inr ⟨by omega, rfl⟩) | (exfalso; omega), by omega⟩
          · intro h24; omega
        · intro h25
          refine zw_7 zr_161_497 rfl ?_
          refine zw_46r (s := 73) zr_161_498 rfl rfl rfl rfl ?_
          refine zw_push zr_161_501 ?_
          obtain ⟨f26, ef26⟩ : ∃ v, m8 73 0 = v := ⟨_, rfl⟩
          have bf26 : (-9223372036854775808) ≤ m8 73 0 ∧ m8 73 0 ≤ 9223372036854775807 := hIm8.rl (c := 73) (len := 64) rfl (by omega)
          rw [ef26] at bf26
          refine zw_50k (c := 73) (len := 64) zr_161_502 rfl rfl (by omega) (by omega) (show (0 : Int).toNat = 0 by omega) ef26 ?_
          have qf26 : f26 = f13 0 := by rw [← fm8_73]; exact (ef26).symm
          refine zw_42 zr_161_503 ?_
          refine zw_47 (c := 69) zr_161_507 rfl ⟨rfl, by decide, rfl⟩ ?_
          intro m27 em27
          have hIm27 : zInv m27 := by rw [em27]; exact hIm8.anyl (by omega) (by decide) rfl (by decide) (by decide)
          have hFm27 : zFr W_161 m0 m27 := by rw [em27]; exact hFm8.up rfl
          have km27_69_5 : m27 69 5 = g0 := by rw [em27, zUp_ne (by decide)]; exact km8_69_5
          have km27_69_6 : m27 69 6 = p9 := by rw [em27, zUp_ne (by decide)]; exact km8_69_6
          have km27_69_7 : m27 69 7 = p10 := by rw [em27, zUp_ne (by decide)]; exact km8_69_7
          have km27_69_9 : m27 69 9 = p11 := by rw [em27, zUp_ne (by decide)]; exact km8_69_9
          have km27_69_11 : m27 69 11 = p12 := by rw [em27, zUp_ne (by decide)]; exact km8_69_11
          have km27_73_0 : m27 73 0 = f26 := by rw [em27, zUp_ne (fun q => absurd q.1 (by decide))]; exact ef26
          have km27_69_13 : m27 69 13 = f26 := by rw [em27]; exact zUp_eq _ _ _ _
          have fm27_70 : m27 70 = F70 := by rw [em27, zUp_fn (by decide)]; exact fm8_70
          have fm27_73 : m27 73 = f13 := by rw [em27, zUp_fn (by decide)]; exact fm8_73
          have fm27_74 : m27 74 = f14 := by rw [em27, zUp_fn (by decide)]; exact fm8_74
          have fm27_75 : m27 75 = F75 := by rw [em27, zUp_fn (by decide)]; exact fm8_75
          clear em27
          refine zw_7 zr_161_510 rfl ?_
          refine zw_46i zr_161_511 km27_69_7 rfl rfl rfl ?_
          refine zw_push zr_161_514 ?_
          refine zw_41_4 zr_161_515 ?_ ?_
          · intro h28; omega
          · intro h29
            refine zw_push zr_161_518 ?_
            refine zw_42 zr_161_519 ?_
            refine zw_R zr_161_523 (by decide) zm_161 (v := (0, 1)) (zRetB (by omega)) ?_
            rw [← hQ]; exact ⟨_, rfl, by omega, by omega, hIm27, hFm27, by rw [km27_69_7, km27_69_13]; first | exact zRdg_x hv4lp26_15 (by omega) (Or.inl ⟨by omega, qf26⟩) | exact zRdg_x hv4lp26_15 (by omega) (Or.inr ⟨by omega, rfl⟩) | (exfalso; omega), by omega⟩
      · intro h32
        refine zw_7 zr_161_30 rfl ?_
        refine zw_46i zr_161_31 km8_69_7 rfl rfl rfl ?_
        refine zw_push zr_161_34 ?_
        refine zw_41_4 zr_161_35 ?_ ?_
        · intro h33
          refine zw_7 zr_161_488 rfl ?_
          refine zw_7 zr_161_489 rfl ?_
          refine zw_46i zr_161_490 km8_69_7 rfl rfl rfl ?_
          refine zw_push zr_161_493 ?_
          refine zw_41_4 zr_161_494 ?_ ?_
          · intro h34
            refine zw_push zr_161_506 ?_
            refine zw_47 (c := 69) zr_161_507 rfl ⟨rfl, by decide, rfl⟩ ?_
            intro m35 em35
            have hIm35 : zInv m35 := by rw [em35]; exact hIm8.anyl (by omega) (by decide) rfl (by decide) (by decide)
            have hFm35 : zFr W_161 m0 m35 := by rw [em35]; exact hFm8.up rfl
            have km35_69_5 : m35 69 5 = g0 := by rw [em35, zUp_ne (by decide)]; exact km8_69_5
            have km35_69_6 : m35 69 6 = p9 := by rw [em35, zUp_ne (by decide)]; exact km8_69_6
            have km35_69_7 : m35 69 7 = p10 := by rw [em35, zUp_ne (by decide)]; exact km8_69_7
            have km35_69_9 : m35 69 9 = p11 := by rw [em35, zUp_ne (by decide)]; exact km8_69_9
            have km35_69_11 : m35 69 11 = p12 := by rw [em35, zUp_ne (by decide)]; exact km8_69_11
            have km35_69_13 : m35 69 13 = 0 := by rw [em35]; exact zUp_eq _ _ _ _
            have fm35_70 : m35 70 = F70 := by rw [em35, zUp_fn (by decide)]; exact fm8_70
            have fm35_73 : m35 73 = f13 := by rw [em35, zUp_fn (by decide)]; exact fm8_73
            have fm35_74 : m35 74 = f14 := by rw [em35, zUp_fn (by decide)]; exact fm8_74
            have fm35_75 : m35 75 = F75 := by rw [em35, zUp_fn (by decide)]; exact fm8_75
            clear em35
            refine zw_7 zr_161_510 rfl ?_
            refine zw_46i zr_161_511 km35_69_7 rfl rfl rfl ?_
            refine zw_push zr_161_514 ?_
            refine zw_41_4 zr_161_515 ?_ ?_
            · intro h36
              refine zw_push zr_161_522 ?_
              refine zw_R zr_161_523 (by decide) zm_161 (v := (0, 0)) (zRetB (by omega)) ?_
              rw [← hQ]; exact ⟨_, rfl, by omega, by omega, hIm35, hFm35, by rw [km35_69_7, km35_69_13]; first | exact zRdg_x hv4lp26_15 (by omega) (Or.inl ⟨by omega, qzz⟩) | exact zRdg_x hv4lp26_15 (by omega) (Or.inr ⟨by omega, rfl⟩) | (exfalso; omega), by omega⟩
            · intro h39; omega
          · intro h40; omega
        · intro h41
          refine zw_7 zr_161_38 rfl ?_
          refine zw_C zr_161_39 (Or.inl rfl) zm_154 rfl rfl ⟨Nat.le_of_ble_eq_true rfl, Nat.le_of_ble_eq_true rfl, Nat.le_of_ble_eq_true rfl, rfl, by decide⟩ (by omega) (th_154 (d := d - 1) (by omega) hIm8  (g0 := p9) (g1 := g0)  (F70 := F70) km8_69_6 km8_69_5 fm8_70  ) ?_
          rintro _ m42 ⟨r43, rfl, hr43a, hr43b, hIm42, gm42, po0_r43, po1_r43, po2_r43⟩
          have hFm42 : zFr W_161 m0 m42 := hFm8.trans gm42 rfl
          have km42_69_5 : m42 69 5 = g0 := (gm42 69 5 rfl).trans km8_69_5
          have km42_69_7 : m42 69 7 = p10 := (gm42 69 7 rfl).trans km8_69_7
          have km42_69_9 : m42 69 9 = p11 := (gm42 69 9 rfl).trans km8_69_9
          have km42_69_11 : m42 69 11 = p12 := (gm42 69 11 rfl).trans km8_69_11
          have fm42_70 : m42 70 = F70 := (funext fun k => gm42 70 k rfl).trans fm8_70
          have fm42_73 : m42 73 = f13 := (funext fun k => gm42 73 k rfl).trans fm8_73
          have fm42_74 : m42 74 = f14 := (funext fun k => gm42 74 k rfl).trans fm8_74
          have fm42_75 : m42 75 = F75 := (funext fun k => gm42 75 k rfl).trans fm8_75
          obtain ⟨f44, ef44⟩ : ∃ v, m42 69 6 = v := ⟨_, rfl⟩
          have bf44 := ib_69_6 hIm42
          rw [ef44] at bf44
          rw [ef44] at po0_r43
          rw [ef44] at po1_r43
          rw [ef44] at po2_r43
          show zW E (d) 161 42 [(2, 69), (0, i5), (0, i6), (0, i7), (9, 0)] [(0, r43)] m42 Q
          refine zw_10 (L' := [(2, 69), (0, i5), (0, i6), (0, i7), (0, r43)]) zr_161_42 (Nat.le_of_ble_eq_true rfl) rfl ?_
          refine zw_3 zr_161_44 rfl ?_
          refine zw_40_1 zr_161_45 ?_ ?_
          · intro h45
            refine zw_4 zr_161_254 rfl ?_
            refine zw_push zr_161_256 ?_
            refine zw_41_4 zr_161_258 ?_ ?_
            · intro h46
              refine zw_4 zr_161_319 rfl ?_
              refine zw_C zr_161_321 (Or.inr rfl) zm_155 rfl rfl ⟨Nat.le_of_ble_eq_true rfl, Nat.le_of_ble_eq_true rfl, Nat.le_of_ble_eq_true rfl, rfl, by decide⟩ (by omega) (th_155 (d := d - 1) (by omega) hIm42 (a0 := r43)      (by omega) ) ?_
              rintro _ _ ⟨r47, rfl, hr47a, hr47b, rfl, po0_r47, po1_r47⟩
              show zW E (d) 161 324 [(2, 69), (0, i5), (0, i6), (0, i7), (0, r43)] [(0, r47)] m42 Q
              refine zw_40_5 zr_161_324 ?_ ?_
              · intro h48
                refine zw_4 zr_161_452 rfl ?_
                refine zw_push zr_161_454 ?_
                refine zw_41_4 zr_161_455 ?_ ?_
                · intro h49
                  refine zw_7 zr_161_472 rfl ?_
                  refine zw_push zr_161_473 ?_
                  refine zw_7 zr_161_475 rfl ?_
                  refine zw_46i zr_161_476 ef44 rfl rfl rfl ?_
                  refine zw_18 zr_161_479 (by omega) ?_
                  refine zw_push zr_161_480 ?_
                  refine zw_16 zr_161_481 (by omega) ?_
                  refine zw_47 (c := 69) zr_161_482 rfl ⟨rfl, by decide, rfl⟩ ?_
                  intro m50 em50
                  have hIm50 : zInv m50 := by rw [em50]; exact hIm42.any (by omega) rfl (by decide) (by decide)
                  have hFm50 : zFr W_161 m0 m50 := by rw [em50]; exact hFm42.up rfl
                  have km50_69_5 : m50 69 5 = g0 := by rw [em50, zUp_ne (by decide)]; exact km42_69_5
                  have km50_69_9 : m50 69 9 = p11 := by rw [em50, zUp_ne (by decide)]; exact km42_69_9
                  have km50_69_11 : m50 69 11 = p12 := by rw [em50, zUp_ne (by decide)]; exact km42_69_11
                  have km50_69_6 : m50 69 6 = f44 := by rw [em50, zUp_ne (by decide)]; exact ef44
                  have km50_69_7 : m50 69 7 = ((10 * f44) + 1) := by rw [em50]; exact zUp_eq _ _ _ _
                  have fm50_70 : m50 70 = F70 := by rw [em50, zUp_fn (by decide)]; exact fm42_70
                  have fm50_73 : m50 73 = f13 := by rw [em50, zUp_fn (by decide)]; exact fm42_73
                  have fm50_74 : m50 74 = f14 := by rw [em50, zUp_fn (by decide)]; exact fm42_74
                  have fm50_75 : m50 75 = F75 := by rw [em50, zUp_fn (by decide)]; exact fm42_75
                  clear em50
                  refine zw_42 zr_161_485 ?_
                  exact zw_less (L := [(2, 69), (0, i5), (0, i6), (0, i7), (9, 0)]) ⟨Or.inr rfl, Or.inr rfl, Or.inr rfl, Or.inr rfl, Or.inl rfl, trivial⟩ (ihlp26_15 (i5) (i6) (i7) (f44) (((10 * f44) + 1)) (p11) (p12) (f13) (f14) m50 hIm50 hFm50  km50_69_5 km50_69_6 km50_69_7 km50_69_9 km50_69_11 fm50_70 fm50_73 fm50_74 fm50_75 (by omega) (by omega) (by omega) (by omega) (by omega) (by omega) (by omega) (by omega) (by omega) (by omega) (by omega) (by omega) (by omega) (by omega) (by omega) (by omega) (by omega) (by omega) (by first | exact zRdg_g hv4lp26_15 po2_r43 (by omega) | (exfalso; omega)) (by omega))
                · intro h52
                  refine zw_3 zr_161_458 rfl ?_
                  refine zw_40_4 zr_161_459 ?_ ?_
                  · intro h53
                    refine zw_7 zr_161_472 rfl ?_
                    refine zw_push zr_161_473 ?_
                    refine zw_7 zr_161_475 rfl ?_
                    refine zw_46i zr_161_476 ef44 rfl rfl rfl ?_
                    refine zw_18 zr_161_479 (by omega) ?_
                    refine zw_push zr_161_480 ?_
                    refine zw_16 zr_161_481 (by omega) ?_
                    refine zw_47 (c := 69) zr_161_482 rfl ⟨rfl, by decide, rfl⟩ ?_
                    intro m54 em54
                    have hIm54 : zInv m54 := by rw [em54]; exact hIm42.any (by omega) rfl (by decide) (by decide)
                    have hFm54 : zFr W_161 m0 m54 := by rw [em54]; exact hFm42.up rfl
                    have km54_69_5 : m54 69 5 = g0 := by rw [em54, zUp_ne (by decide)]; exact km42_69_5
                    have km54_69_9 : m54 69 9 = p11 := by rw [em54, zUp_ne (by decide)]; exact km42_69_9
                    have km54_69_11 : m54 69 11 = p12 := by rw [em54, zUp_ne (by decide)]; exact km42_69_11
                    have km54_69_6 : m54 69 6 = f44 := by rw [em54, zUp_ne (by decide)]; exact ef44
                    have km54_69_7 : m54 69 7 = ((10 * f44) + 1) := by rw [em54]; exact zUp_eq _ _ _ _
                    have fm54_70 : m54 70 = F70 := by rw [em54, zUp_fn (by decide)]; exact fm42_70
                    have fm54_73 : m54 73 = f13 := by rw [em54, zUp_fn (by decide)]; exact fm42_73
                    have fm54_74 : m54 74 = f14 := by rw [em54, zUp_fn (by decide)]; exact fm42_74
                    have fm54_75 : m54 75 = F75 := by rw [em54, zUp_fn (by decide)]; exact fm42_75
                    clear em54
                    refine zw_42 zr_161_485 ?_
                    exact zw_less (L := [(2, 69), (0, i5), (0, i6), (0, i7), (9, 0)]) ⟨Or.inr rfl, Or.inr rfl, Or.inr rfl, Or.inr rfl, Or.inl rfl, trivial⟩ (ihlp26_15 (i5) (i6) (i7) (f44) (((10 * f44) + 1)) (p11) (p12) (f13) (f14) m54 hIm54 hFm54  km54_69_5 km54_69_6 km54_69_7 km54_69_9 km54_69_11 fm54_70 fm54_73 fm54_74 fm54_75 (by omega) (by omega) (by omega) (by omega) (by omega) (by omega) (by omega) (by omega) (by omega) (by omega) (by omega) (by omega) (by omega) (by omega) (by omega) (by omega) (by omega) (by omega) (by first | exact zRdg_g hv4lp26_15 po2_r43 (by omega) | (exfalso; omega)) (by omega))
                  · intro h56
                    refine zw_7 zr_161_462 rfl ?_
                    refine zw_push zr_161_463 ?_
                    refine zw_C zr_161_464 (Or.inl rfl) zm_157 rfl rfl ⟨Nat.le_of_ble_eq_true rfl, Nat.le_of_ble_eq_true rfl, Nat.le_of_ble_eq_true rfl, rfl, by decide⟩ (by omega) (th_157 (d := d - 1) (by omega) hIm42 (a0 := 1) (g0 := p12) (g1 := p11)  (F73 := f13) (F74 := f14) km42_69_11 km42_69_9 fm42_73 fm42_74 (by omega) (by omega)) ?_
                    rintro _ m57 ⟨rfl, hIm57, gm57, po0_m57, po1_m57, po2_m57, po3_m57, po4_m57, po5_m57⟩
                    have hFm57 : zFr W_161 m0 m57 := hFm42.trans gm57 rfl
                    have km57_69_5 : m57 69 5 = g0 := (gm57 69 5 rfl).trans km42_69_5
                    have km57_69_7 : m57 69 7 = p10 := (gm57 69 7 rfl).trans km42_69_7
                    have km57_69_6 : m57 69 6 = f44 := (gm57 69 6 rfl).trans ef44
                    have fm57_70 : m57 70 = F70 := (funext fun k => gm57 70 k rfl).trans fm42_70
                    obtain ⟨f58, fm57_73⟩ : ∃ f, m57 73 = f := ⟨_, rfl⟩
                    try rw [fm57_73] at po5_m57
                    have fm57_74 : m57 74 = f14 := (funext fun k => gm57 74 k rfl).trans fm42_74
                    have fm57_75 : m57 75 = F75 := (funext fun k => gm57 75 k rfl).trans fm42_75
                    obtain ⟨f59, ef59⟩ : ∃ v, m57 69 11 = v := ⟨_, rfl⟩
                    have bf59 := ib_69_11 hIm57
                    rw [ef59] at bf59
                    rw [ef59] at po0_m57
                    rw [ef59] at po2_m57
                    rw [ef59] at po3_m57
                    rw [ef59] at po4_m57
                    obtain ⟨f60, ef60⟩ : ∃ v, m57 69 9 = v := ⟨_, rfl⟩
                    have bf60 := ib_69_9 hIm57
                    rw [ef60] at bf60
                    rw [ef60] at po1_m57
                    rw [ef60] at po2_m57
                    rw [ef60] at po5_m57
                    show zW E (d) 161 467 [(2, 69), (0, i5), (0, i6), (0, i7), (0, r43)] [] m57 Q
                    have z61 := cB_nn f14 (f59).toNat
                    have hWs := po4_m57
                    have hWv := po5_m57
                    refine zw_push zr_161_467 ?_
                    refine zw_9 (L' := [(2, 69), (0, i5), (0, i6), (0, 0), (0, r43)]) zr_161_468 (Nat.le_of_ble_eq_true rfl) rfl ?_
                    refine zw_42 zr_161_469 ?_
                    refine zw_42 zr_161_485 ?_
                    exact zw_less (L := [(2, 69), (0, i5), (0, i6), (0, 0), (9, 0)]) ⟨Or.inr rfl, Or.inr rfl, Or.inr rfl, Or.inr rfl, Or.inl rfl, trivial⟩ (ihlp26_15 (i5) (i6) (0) (f44) (p10) (f60) (f59) (f58) (f14) m57 hIm57 hFm57  km57_69_5 km57_69_6 km57_69_7 ef60 ef59 fm57_70 fm57_73 fm57_74 fm57_75 (by omega) (by omega) (by omega) (by omega) (by omega) (by omega) (by omega) (by omega) (by omega) (by omega) (by omega) (by omega) (by omega) (by omega) (by omega) (by omega) (by omega) (by omega) (by first | exact zRdg_e hv4lp26_15 po2_r43 hWv (by omega) | (exfalso; omega)) (by omega))
              · intro h63
                have z64 : 33 ≤ r43 := by omega
                have z65 : f44 ≤ 49 := by omega
                refine zw_7 zr_161_327 rfl ?_
                refine zw_4 zr_161_328 rfl ?_
                refine zw_C zr_161_330 (Or.inr rfl) zm_155 rfl rfl ⟨Nat.le_of_ble_eq_true rfl, Nat.le_of_ble_eq_true rfl, Nat.le_of_ble_eq_true rfl, rfl, by decide⟩ (by omega) (th_155 (d := d - 1) (by omega) hIm42 (a0 := r43)      (by omega) ) ?_
                rintro _ _ ⟨r66, rfl, hr66a, hr66b, rfl, po0_r66, po1_r66⟩
                have hrr66 : r47 = r66 := po1_r47.trans po1_r66.symm
                clear po0_r66 po1_r66
                subst hrr66
                show zW E (d) 161 333 [(2, 69), (0, i5), (0, i6), (0, i7), (0, r43)] [(0, r47), (2, 69)] m42 Q
                refine zw_push zr_161_333 ?_
                refine zw_41_4 zr_161_334 ?_ ?_
                · intro h67
                  refine zw_4 zr_161_341 rfl ?_
                  refine zw_C zr_161_343 (Or.inr rfl) zm_155 rfl rfl ⟨Nat.le_of_ble_eq_true rfl, Nat.le_of_ble_eq_true rfl, Nat.le_of_ble_eq_true rfl, rfl, by decide⟩ (by omega) (th_155 (d := d - 1) (by omega) hIm42 (a0 := r43)      (by omega) ) ?_
                  rintro _ _ ⟨r68, rfl, hr68a, hr68b, rfl, po0_r68, po1_r68⟩
                  have hrr68 : r47 = r68 := po1_r47.trans po1_r68.symm
                  clear po0_r68 po1_r68
                  subst hrr68
                  show zW E (d) 161 346 [(2, 69), (0, i5), (0, i6), (0, i7), (0, r43)] [(0, r47), (2, 69)] m42 Q
                  refine zw_C zr_161_346 (Or.inl rfl) zm_157 rfl rfl ⟨Nat.le_of_ble_eq_true rfl, Nat.le_of_ble_eq_true rfl, Nat.le_of_ble_eq_true rfl, rfl, by decide⟩ (by omega) (th_157 (d := d - 1) (by omega) hIm42 (a0 := r47) (g0 := p12) (g1 := p11)  (F73 := f13) (F74 := f14) km42_69_11 km42_69_9 fm42_73 fm42_74 (by omega) (by omega)) ?_
                  rintro _ m69 ⟨rfl, hIm69, gm69, po0_m69, po1_m69, po2_m69, po3_m69, po4_m69, po5_m69⟩
                  have hFm69 : zFr W_161 m0 m69 := hFm42.trans gm69 rfl
                  have km69_69_5 : m69 69 5 = g0 := (gm69 69 5 rfl).trans km42_69_5
                  have km69_69_7 : m69 69 7 = p10 := (gm69 69 7 rfl).trans km42_69_7
                  have km69_69_6 : m69 69 6 = f44 := (gm69 69 6 rfl).trans ef44
                  have fm69_70 : m69 70 = F70 := (funext fun k => gm69 70 k rfl).trans fm42_70
                  obtain ⟨f70, fm69_73⟩ : ∃ f, m69 73 = f := ⟨_, rfl⟩
                  try rw [fm69_73] at po5_m69
                  have fm69_74 : m69 74 = f14 := (funext fun k => gm69 74 k rfl).trans fm42_74
                  have fm69_75 : m69 75 = F75 := (funext fun k => gm69 75 k rfl).trans fm42_75
                  obtain ⟨f71, ef71⟩ : ∃ v, m69 69 11 = v := ⟨_, rfl⟩
                  have bf71 := ib_69_11 hIm69
                  rw [ef71] at bf71
                  rw [ef71] at po0_m69
                  rw [ef71] at po2_m69
                  rw [ef71] at po3_m69
                  rw [ef71] at po4_m69
                  obtain ⟨f72, ef72⟩ : ∃ v, m69 69 9 = v := ⟨_, rfl⟩
                  have bf72 := ib_69_9 hIm69
                  rw [ef72] at bf72
                  rw [ef72] at po1_m69
                  rw [ef72] at po2_m69
                  rw [ef72] at po5_m69
                  show zW E (d) 161 349 [(2, 69), (0, i5), (0, i6), (0, i7), (0, r43)] [] m69 Q
                  have z73 := cB_nn f14 (f71).toNat
                  have hWs := po4_m69
                  have hWv := po5_m69
                  refine zw_4 zr_161_349 rfl ?_
                  refine zw_C zr_161_351 (Or.inr rfl) zm_155 rfl rfl ⟨Nat.le_of_ble_eq_true rfl, Nat.le_of_ble_eq_true rfl, Nat.le_of_ble_eq_true rfl, rfl, by decide⟩ (by omega) (th_155 (d := d - 1) (by omega) hIm69 (a0 := r43)      (by omega) ) ?_
                  rintro _ _ ⟨r74, rfl, hr74a, hr74b, rfl, po0_r74, po1_r74⟩
                  have hrr74 : r47 = r74 := po1_r47.trans po1_r74.symm
                  clear po0_r74 po1_r74
                  subst hrr74
                  show zW E (d) 161 354 [(2, 69), (0, i5), (0, i6), (0, i7), (0, r43)] [(0, r47)] m69 Q
                  refine zw_push zr_161_354 ?_
                  refine zw_41_4 zr_161_355 ?_ ?_
                  · intro h75
                    refine zw_7 zr_161_416 rfl ?_
                    refine zw_43 zr_161_417 rfl ?_
                    refine zw_46i zr_161_418 km69_69_6 rfl rfl rfl ?_
                    refine zw_push zr_161_421 ?_
                    refine zw_16 zr_161_422 (by omega) ?_
                    refine zw_47 (c := 69) zr_161_423 rfl ⟨rfl, by decide, rfl⟩ ?_
                    intro m76 em76
                    have hIm76 : zInv m76 := by rw [em76]; exact hIm69.bd (r := 69) (k := 6) (lo := 0) (hi := 50) rfl (by omega) (by decide) (by decide) (by decide)
                    have hFm76 : zFr W_161 m0 m76 := by rw [em76]; exact hFm69.up rfl
                    have km76_69_5 : m76 69 5 = g0 := by rw [em76, zUp_ne (by decide)]; exact km69_69_5
                    have km76_69_7 : m76 69 7 = p10 := by rw [em76, zUp_ne (by decide)]; exact km69_69_7
                    have km76_69_11 : m76 69 11 = f71 := by rw [em76, zUp_ne (by decide)]; exact ef71
                    have km76_69_9 : m76 69 9 = f72 := by rw [em76, zUp_ne (by decide)]; exact ef72
                    have km76_69_6 : m76 69 6 = (f44 + 1) := by rw [em76]; exact zUp_eq _ _ _ _
                    have fm76_70 : m76 70 = F70 := by rw [em76, zUp_fn (by decide)]; exact fm69_70
                    have fm76_73 : m76 73 = f70 := by rw [em76, zUp_fn (by decide)]; exact fm69_73
                    have fm76_74 : m76 74 = f14 := by rw [em76, zUp_fn (by decide)]; exact fm69_74
                    have fm76_75 : m76 75 = F75 := by rw [em76, zUp_fn (by decide)]; exact fm69_75
                    clear em76
                    refine zw_7 zr_161_426 rfl ?_
                    refine zw_46r (s := 74) zr_161_427 rfl rfl rfl rfl ?_
                    refine zw_7 zr_161_430 rfl ?_
                    refine zw_46i zr_161_431 km76_69_11 rfl rfl rfl ?_
                    refine zw_4 zr_161_434 rfl ?_
                    refine zw_49 (c := 74) (len := 128) zr_161_436 rfl rfl (by omega) (by omega) ?_
                    intro m77 em77
                    have hIm77 : zInv m77 := by rw [em77]; exact iu_74 hIm76 (by omega)
                    have hFm77 : zFr W_161 m0 m77 := by rw [em77]; exact hFm76.any rfl
                    have km77_69_5 : m77 69 5 = g0 := by rw [em77, zUp_ne (fun q => absurd q.1 (by decide))]; exact km76_69_5
                    have km77_69_7 : m77 69 7 = p10 := by rw [em77, zUp_ne (fun q => absurd q.1 (by decide))]; exact km76_69_7
                    have km77_69_11 : m77 69 11 = f71 := by rw [em77, zUp_ne (fun q => absurd q.1 (by decide))]; exact km76_69_11
                    have km77_69_9 : m77 69 9 = f72 := by rw [em77, zUp_ne (fun q => absurd q.1 (by decide))]; exact km76_69_9
                    have km77_69_6 : m77 69 6 = (f44 + 1) := by rw [em77, zUp_ne (fun q => absurd q.1 (by decide))]; exact km76_69_6
                    have fm77_70 : m77 70 = F70 := by rw [em77, zUp_fn (by decide)]; exact fm76_70
                    have fm77_73 : m77 73 = f70 := by rw [em77, zUp_fn (by decide)]; exact fm76_73
                    have fm77_74 : m77 74 = zPt f14 ((f71).toNat) r43 := by rw [em77]; exact (zUp_ff (m := m76)).trans (congrArg (fun q => zPt q ((f71).toNat) r43) fm76_74)
                    have fm77_75 : m77 75 = F75 := by rw [em77, zUp_fn (by decide)]; exact fm76_75
                    clear em77
                    have z78 := zcp_s f14 (f71).toNat (f71 + 1).toNat (r43) (by omega) (by omega)
                    refine zw_7 zr_161_437 rfl ?_
                    refine zw_43 zr_161_438 rfl ?_
                    refine zw_46i zr_161_439 km77_69_11 rfl rfl rfl ?_
                    refine zw_push zr_161_442 ?_
                    refine zw_16 zr_161_443 (by omega) ?_
                    refine zw_47 (c := 69) zr_161_444 rfl ⟨rfl, by decide, rfl⟩ ?_
                    intro m79 em79
                    have hIm79 : zInv m79 := by rw [em79]; exact hIm77.bd (r := 69) (k := 11) (lo := 0) (hi := 128) rfl (by omega) (by decide) (by decide) (by decide)
                    have hFm79 : zFr W_161 m0 m79 := by rw [em79]; exact hFm77.up rfl
                    have km79_69_5 : m79 69 5 = g0 := by rw [em79, zUp_ne (by decide)]; exact km77_69_5
                    have km79_69_7 : m79 69 7 = p10 := by rw [em79, zUp_ne (by decide)]; exact km77_69_7
                    have km79_69_9 : m79 69 9 = f72 := by rw [em79, zUp_ne (by decide)]; exact km77_69_9
                    have km79_69_6 : m79 69 6 = (f44 + 1) := by rw [em79, zUp_ne (by decide)]; exact km77_69_6
                    have km79_69_11 : m79 69 11 = (f71 + 1) := by rw [em79]; exact zUp_eq _ _ _ _
                    have fm79_70 : m79 70 = F70 := by rw [em79, zUp_fn (by decide)]; exact fm77_70
                    have fm79_73 : m79 73 = f70 := by rw [em79, zUp_fn (by decide)]; exact fm77_73
                    have fm79_74 : m79 74 = zPt f14 ((f71).toNat) r43 := by rw [em79, zUp_fn (by decide)]; exact fm77_74
                    have fm79_75 : m79 75 = F75 := by rw [em79, zUp_fn (by decide)]; exact fm77_75
                    clear em79
                    refine zw_push zr_161_447 ?_
                    refine zw_9 (L' := [(2, 69), (0, i5), (0, 1), (0, i7), (0, r43)]) zr_161_448 (Nat.le_of_ble_eq_true rfl) rfl ?_
                    refine zw_42 zr_161_449 ?_
                    refine zw_42 zr_161_485 ?_
                    exact zw_less (L := [(2, 69), (0, i5), (0, 1), (0, i7), (9, 0)]) ⟨Or.inr rfl, Or.inr rfl, Or.inr rfl, Or.inr rfl, Or.inl rfl, trivial⟩ (ihlp26_15 (i5) (1) (i7) ((f44 + 1)) (p10) (f72) ((f71 + 1)) (f70) (zPt f14 ((f71).toNat) r43) m79 hIm79 hFm79  km79_69_5 km79_69_6 km79_69_7 km79_69_9 km79_69_11 fm79_70 fm79_73 fm79_74 fm79_75 (by omega) (by omega) (by omega) (by omega) (by omega) (by omega) (by omega) (by omega) (by omega) (by omega) (by omega) (by omega) (by omega) (by omega) (by omega) (by omega) (by omega) (by omega) (by first | exact zRdg_o hv4lp26_15 po2_r43 po1_r47 hWs hWv (by omega) rfl (by first | exact Or.inl (by omega) | exact Or.inr (Or.inl (by omega)) | exact Or.inr (Or.inr ⟨_, hK, Or.inl (by omega)⟩) | exact Or.inr (Or.inr ⟨_, hK, Or.inr (by omega)⟩)) (by omega) | (exfalso; omega)) (by omega))
                  · intro h81; omega
                · intro h82
                  refine zw_push zr_161_337 ?_
                  refine zw_42 zr_161_338 ?_
                  refine zw_C zr_161_346 (Or.inl rfl) zm_157 rfl rfl ⟨Nat.le_of_ble_eq_true rfl, Nat.le_of_ble_eq_true rfl, Nat.le_of_ble_eq_true rfl, rfl, by decide⟩ (by omega) (th_157 (d := d - 1) (by omega) hIm42 (a0 := 4) (g0 := p12) (g1 := p11)  (F73 := f13) (F74 := f14) km42_69_11 km42_69_9 fm42_73 fm42_74 (by omega) (by omega)) ?_
                  rintro _ m83 ⟨rfl, hIm83, gm83, po0_m83, po1_m83, po2_m83, po3_m83, po4_m83, po5_m83⟩
                  have hFm83 : zFr W_161 m0 m83 := hFm42.trans gm83 rfl
                  have km83_69_5 : m83 69 5 = g0 := (gm83 69 5 rfl).trans km42_69_5
                  have km83_69_7 : m83 69 7 = p10 := (gm83 69 7 rfl).trans km42_69_7
                  have km83_69_6 : m83 69 6 = f44 := (gm83 69 6 rfl).trans ef44
                  have fm83_70 : m83 70 = F70 := (funext fun k => gm83 70 k rfl).trans fm42_70
                  obtain ⟨f84, fm83_73⟩ : ∃ f, m83 73 = f := ⟨_, rfl⟩
                  try rw [fm83_73] at po5_m83
                  have fm83_74 : m83 74 = f14 := (funext fun k => gm83 74 k rfl).trans fm42_74
                  have fm83_75 : m83 75 = F75 := (funext fun k => gm83 75 k rfl).trans fm42_75
                  obtain ⟨f85, ef85⟩ : ∃ v, m83 69 11 = v := ⟨_, rfl⟩
                  have bf85 := ib_69_11 hIm83
                  rw [ef85] at bf85
                  rw [ef85] at po0_m83
                  rw [ef85] at po2_m83
                  rw [ef85] at po3_m83
                  rw [ef85] at po4_m83
                  obtain ⟨f86, ef86⟩ : ∃ v, m83 69 9 = v := ⟨_, rfl⟩
                  have bf86 := ib_69_9 hIm83
                  rw [ef86] at bf86
                  rw [ef86] at po1_m83
                  rw [ef86] at po2_m83
                  rw [ef86] at po5_m83
                  show zW E (d) 161 349 [(2, 69), (0, i5), (0, i6), (0, i7), (0, r43)] [] m83 Q
                  have z87 := cB_nn f14 (f85).toNat
                  have hWs := po4_m83
                  have hWv := po5_m83
                  refine zw_4 zr_161_349 rfl ?_
                  refine zw_C zr_161_351 (Or.inr rfl) zm_155 rfl rfl ⟨Nat.le_of_ble_eq_true rfl, Nat.le_of_ble_eq_true rfl, Nat.le_of_ble_eq_true rfl, rfl, by decide⟩ (by omega) (th_155 (d := d - 1) (by omega) hIm83 (a0 := r43)      (by omega) ) ?_
                  rintro _ _ ⟨r88, rfl, hr88a, hr88b, rfl, po0_r88, po1_r88⟩
                  have hrr88 : r47 = r88 := po1_r47.trans po1_r88.symm
                  clear po0_r88 po1_r88
                  subst hrr88
                  show zW E (d) 161 354 [(2, 69), (0, i5), (0, i6), (0, i7), (0, r43)] [(0, r47)] m83 Q
                  refine zw_push zr_161_354 ?_
                  refine zw_41_4 zr_161_355 ?_ ?_
                  · intro h89; omega
                  · intro h90
                    refine zw_7 zr_161_358 rfl ?_
                    refine zw_46i zr_161_359 ef85 rfl rfl rfl ?_
                    refine zw_40_5 zr_161_362 ?_ ?_
                    · intro h91
                      refine zw_7 zr_161_416 rfl ?_
                      refine zw_43 zr_161_417 rfl ?_
                      refine zw_46i zr_161_418 km83_69_6 rfl rfl rfl ?_
                      refine zw_push zr_161_421 ?_
                      refine zw_16 zr_161_422 (by omega) ?_
                      refine zw_47 (c := 69) zr_161_423 rfl ⟨rfl, by decide, rfl⟩ ?_
                      intro m92 em92
                      have hIm92 : zInv m92 := by rw [em92]; exact hIm83.bd (r := 69) (k := 6) (lo := 0) (hi := 50) rfl (by omega) (by decide) (by decide) (by decide)
                      have hFm92 : zFr W_161 m0 m92 := by rw [em92]; exact hFm83.up rfl
                      have km92_69_5 : m92 69 5 = g0 := by rw [em92, zUp_ne (by decide)]; exact km83_69_5
                      have km92_69_7 : m92 69 7 = p10 := by rw [em92, zUp_ne (by decide)]; exact km83_69_7
                      have km92_69_11 : m92 69 11 = f85 := by rw [em92, zUp_ne (by decide)]; exact ef85
                      have km92_69_9 : m92 69 9 = f86 := by rw [em92, zUp_ne (by decide)]; exact ef86
                      have km92_69_6 : m92 69 6 = (f44 + 1) := by rw [em92]; exact zUp_eq _ _ _ _
                      have fm92_70 : m92 70 = F70 := by rw [em92, zUp_fn (by decide)]; exact fm83_70
                      have fm92_73 : m92 73 = f84 := by rw [em92, zUp_fn (by decide)]; exact fm83_73
                      have fm92_74 : m92 74 = f14 := by rw [em92, zUp_fn (by decide)]; exact fm83_74
                      have fm92_75 : m92 75 = F75 := by rw [em92, zUp_fn (by decide)]; exact fm83_75
                      clear em92
                      refine zw_7 zr_161_426 rfl ?_
                      refine zw_46r (s := 74) zr_161_427 rfl rfl rfl rfl ?_
                      refine zw_7 zr_161_430 rfl ?_
                      refine zw_46i zr_161_431 km92_69_11 rfl rfl rfl ?_
                      refine zw_4 zr_161_434 rfl ?_
                      refine zw_49 (c := 74) (len := 128) zr_161_436 rfl rfl (by omega) (by omega) ?_
                      intro m93 em93
                      have hIm93 : zInv m93 := by rw [em93]; exact iu_74 hIm92 (by omega)
                      have hFm93 : zFr W_161 m0 m93 := by rw [em93]; exact hFm92.any rfl
                      have km93_69_5 : m93 69 5 = g0 := by rw [em93, zUp_ne (fun q => absurd q.1 (by decide))]; exact km92_69_5
                      have km93_69_7 : m93 69 7 = p10 := by rw [em93, zUp_ne (fun q => absurd q.1 (by decide))]; exact km92_69_7
                      have km93_69_11 : m93 69 11 = f85 := by rw [em93, zUp_ne (fun q => absurd q.1 (by decide))]; exact km92_69_11
                      have km93_69_9 : m93 69 9 = f86 := by rw [em93, zUp_ne (fun q => absurd q.1 (by decide))]; exact km92_69_9
                      have km93_69_6 : m93 69 6 = (f44 + 1) := by rw [em93, zUp_ne (fun q => absurd q.1 (by decide))]; exact km92_69_6
                      have km93_74_0 : m93 74 0 = r43 := by rw [em93, show (f85 : Int).toNat = 0 by omega]; exact zUp_eq _ _ _ _
                      have fm93_70 : m93 70 = F70 := by rw [em93, zUp_fn (by decide)]; exact fm92_70
                      have fm93_73 : m93 73 = f84 := by rw [em93, zUp_fn (by decide)]; exact fm92_73
                      have fm93_74 : m93 74 = zPt f14 ((f85).toNat) r43 := by rw [em93]; exact (zUp_ff (m := m92)).trans (congrArg (fun q => zPt q ((f85).toNat) r43) fm92_74)
                      have fm93_75 : m93 75 = F75 := by rw [em93, zUp_fn (by decide)]; exact fm92_75
                      clear em93
                      have z94 := zcp_s f14 (f85).toNat (f85 + 1).toNat (r43) (by omega) (by omega)
                      refine zw_7 zr_161_437 rfl ?_
                      refine zw_43 zr_161_438 rfl ?_
                      refine zw_46i zr_161_439 km93_69_11 rfl rfl rfl ?_
                      refine zw_push zr_161_442 ?_
                      refine zw_16 zr_161_443 (by omega) ?_
                      refine zw_47 (c := 69) zr_161_444 rfl ⟨rfl, by decide, rfl⟩ ?_
                      intro m95 em95
                      have hIm95 : zInv m95 := by rw [em95]; exact hIm93.bd (r := 69) (k := 11) (lo := 0) (hi := 128) rfl (by omega) (by decide) (by decide) (by decide)
                      have hFm95 : zFr W_161 m0 m95 := by rw [em95]; exact hFm93.up rfl
                      have km95_69_5 : m95 69 5 = g0 := by rw [em95, zUp_ne (by decide)]; exact km93_69_5
                      have km95_69_7 : m95 69 7 = p10 := by rw [em95, zUp_ne (by decide)]; exact km93_69_7
                      have km95_69_9 : m95 69 9 = f86 := by rw [em95, zUp_ne (by decide)]; exact km93_69_9
                      have km95_69_6 : m95 69 6 = (f44 + 1) := by rw [em95, zUp_ne (by decide)]; exact km93_69_6
                      have km95_74_0 : m95 74 0 = r43 := by rw [em95, zUp_ne (fun q => absurd q.1 (by decide))]; exact km93_74_0
                      have km95_69_11 : m95 69 11 = (f85 + 1) := by rw [em95]; exact zUp_eq _ _ _ _
                      have fm95_70 : m95 70 = F70 := by rw [em95, zUp_fn (by decide)]; exact fm93_70
                      have fm95_73 : m95 73 = f84 := by rw [em95, zUp_fn (by decide)]; exact fm93_73
                      have fm95_74 : m95 74 = zPt f14 ((f85).toNat) r43 := by rw [em95, zUp_fn (by decide)]; exact fm93_74
                      have fm95_75 : m95 75 = F75 := by rw [em95, zUp_fn (by decide)]; exact fm93_75
                      clear em95
                      refine zw_push zr_161_447 ?_
                      refine zw_9 (L' := [(2, 69), (0, i5), (0, 1), (0, i7), (0, r43)]) zr_161_448 (Nat.le_of_ble_eq_true rfl) rfl ?_
                      refine zw_42 zr_161_449 ?_
                      refine zw_42 zr_161_485 ?_
                      exact zw_less (L := [(2, 69), (0, i5), (0, 1), (0, i7), (9, 0)]) ⟨Or.inr rfl, Or.inr rfl, Or.inr rfl, Or.inr rfl, Or.inl rfl, trivial⟩ (ihlp26_15 (i5) (1) (i7) ((f44 + 1)) (p10) (f86) ((f85 + 1)) (f84) (zPt f14 ((f85).toNat) r43) m95 hIm95 hFm95  km95_69_5 km95_69_6 km95_69_7 km95_69_9 km95_69_11 fm95_70 fm95_73 fm95_74 fm95_75 (by omega) (by omega) (by omega) (by omega) (by omega) (by omega) (by omega) (by omega) (by omega) (by omega) (by omega) (by omega) (by omega) (by omega) (by omega) (by omega) (by omega) (by omega) (by first | exact zRdg_o hv4lp26_15 po2_r43 po1_r47 hWs hWv (by omega) rfl (by first | exact Or.inl (by omega) | exact Or.inr (Or.inl (by omega)) | exact Or.inr (Or.inr ⟨_, hK, Or.inl (by omega)⟩) | exact Or.inr (Or.inr ⟨_, hK, Or.inr (by omega)⟩)) (by omega) | (exfalso; omega)) (by omega))
                    · intro h97
                      refine zw_7 zr_161_365 rfl ?_
                      refine zw_46r (s := 74) zr_161_366 rfl rfl rfl rfl ?_
                      refine zw_7 zr_161_369 rfl ?_
                      refine zw_46i zr_161_370 ef85 rfl rfl rfl ?_
                      refine zw_push zr_161_373 ?_
                      refine zw_17 zr_161_374 (by omega) ?_
                      refine zw_48 (c := 74) (len := 128) zr_161_375 rfl rfl (by omega) (by omega) ?_
                      intro x98 ex98
                      have bx98 := ib_74 hIm83 (k := ((f85 - 1)).toNat) (by omega)
                      rw [← ex98] at bx98
                      have qx98 : x98 = f14 ((f85 - 1)).toNat := by rw [← fm83_74]; exact ex98
                      refine zw_push zr_161_376 ?_
                      have hK := qx98
                      refine zw_41_3 zr_161_379 ?_ ?_
                      · intro h100
                        refine zw_7 zr_161_416 rfl ?_
                        refine zw_43 zr_161_417 rfl ?_
                        refine zw_46i zr_161_418 km83_69_6 rfl rfl rfl ?_
                        refine zw_push zr_161_421 ?_
                        refine zw_16 zr_161_422 (by omega) ?_
                        refine zw_47 (c := 69) zr_161_423 rfl ⟨rfl, by decide, rfl⟩ ?_
                        intro m101 em101
                        have hIm101 : zInv m101 := by rw [em101]; exact hIm83.bd (r := 69) (k := 6) (lo := 0) (hi := 50) rfl (by omega) (by decide) (by decide) (by decide)
                        have hFm101 : zFr W_161 m0 m101 := by rw [em101]; exact hFm83.up rfl
                        have km101_69_5 : m101 69 5 = g0 := by rw [em101, zUp_ne (by decide)]; exact km83_69_5
                        have km101_69_7 : m101 69 7 = p10 := by rw [em101, zUp_ne (by decide)]; exact km83_69_7
                        have km101_69_11 : m101 69 11 = f85 := by rw [em101, zUp_ne (by decide)]; exact ef85
                        have km101_69_9 : m101 69 9 = f86 := by rw [em101, zUp_ne (by decide)]; exact ef86
                        have km101_69_6 : m101 69 6 = (f44 + 1) := by rw [em101]; exact zUp_eq _ _ _ _
                        have fm101_70 : m101 70 = F70 := by rw [em101, zUp_fn (by decide)]; exact fm83_70
                        have fm101_73 : m101 73 = f84 := by rw [em101, zUp_fn (by decide)]; exact fm83_73
                        have fm101_74 : m101 74 = f14 := by rw [em101, zUp_fn (by decide)]; exact fm83_74
                        have fm101_75 : m101 75 = F75 := by rw [em101, zUp_fn (by decide)]; exact fm83_75
                        clear em101
                        refine zw_7 zr_161_426 rfl ?_
                        refine zw_46r (s := 74) zr_161_427 rfl rfl rfl rfl ?_
                        refine zw_7 zr_161_430 rfl ?_
                        refine zw_46i zr_161_431 km101_69_11 rfl rfl rfl ?_
                        refine zw_4 zr_161_434 rfl ?_
                        refine zw_49 (c := 74) (len := 128) zr_161_436 rfl rfl (by omega) (by omega) ?_
                        intro m102 em102
                        have hIm102 : zInv m102 := by rw [em102]; exact iu_74 hIm101 (by omega)
                        have hFm102 : zFr W_161 m0 m102 := by rw [em102]; exact hFm101.any rfl
                        have km102_69_5 : m102 69 5 = g0 := by rw [em102, zUp_ne (fun q => absurd q.1 (by decide))]; exact km101_69_5
                        have km102_69_7 : m102 69 7 = p10 := by rw [em102, zUp_ne (fun q => absurd q.1 (by decide))]; exact km101_69_7
                        have km102_69_11 : m102 69 11 = f85 := by rw [em102, zUp_ne (fun q => absurd q.1 (by decide))]; exact km101_69_11
                        have km102_69_9 : m102 69 9 = f86 := by rw [em102, zUp_ne (fun q => absurd q.1 (by decide))]; exact km101_69_9
                        have km102_69_6 : m102 69 6 = (f44 + 1) := by rw [em102, zUp_ne (fun q => absurd q.1 (by decide))]; exact km101_69_6
                        have fm102_70 : m102 70 = F70 := by rw [em102, zUp_fn (by decide)]; exact fm101_70
                        have fm102_73 : m102 73 = f84 := by rw [em102, zUp_fn (by decide)]; exact fm101_73
                        have fm102_74 : m102 74 = zPt f14 ((f85).toNat) r43 := by rw [em102]; exact (zUp_ff (m := m101)).trans (congrArg (fun q => zPt q ((f85).toNat) r43) fm101_74)
                        have fm102_75 : m102 75 = F75 := by rw [em102, zUp_fn (by decide)]; exact fm101_75
                        clear em102
                        have z103 := zcp_s f14 (f85).toNat (f85 + 1).toNat (r43) (by omega) (by omega)
                        refine zw_7 zr_161_437 rfl ?_
                        refine zw_43 zr_161_438 rfl ?_
                        refine zw_46i zr_161_439 km102_69_11 rfl rfl rfl ?_
                        refine zw_push zr_161_442 ?_
                        refine zw_16 zr_161_443 (by omega) ?_
                        refine zw_47 (c := 69) zr_161_444 rfl ⟨rfl, by decide, rfl⟩ ?_
                        intro m104 em104
                        have hIm104 : zInv m104 := by rw [em104]; exact hIm102.bd (r := 69) (k := 11) (lo := 0) (hi := 128) rfl (by omega) (by decide) (by decide) (by decide)
                        have hFm104 : zFr W_161 m0 m104 := by rw [em104]; exact hFm102.up rfl
                        have km104_69_5 : m104 69 5 = g0 := by rw [em104, zUp_ne (by decide)]; exact km102_69_5
                        have km104_69_7 : m104 69 7 = p10 := by rw [em104, zUp_ne (by decide)]; exact km102_69_7
                        have km104_69_9 : m104 69 9 = f86 := by rw [em104, zUp_ne (by decide)]; exact km102_69_9
                        have km104_69_6 : m104 69 6 = (f44 + 1) := by rw [em104, zUp_ne (by decide)]; exact km102_69_6
                        have km104_69_11 : m104 69 11 = (f85 + 1) := by rw [em104]; exact zUp_eq _ _ _ _
                        have fm104_70 : m104 70 = F70 := by rw [em104, zUp_fn (by decide)]; exact fm102_70
                        have fm104_73 : m104 73 = f84 := by rw [em104, zUp_fn (by decide)]; exact fm102_73
                        have fm104_74 : m104 74 = zPt f14 ((f85).toNat) r43 := by rw [em104, zUp_fn (by decide)]; exact fm102_74
                        have fm104_75 : m104 75 = F75 := by rw [em104, zUp_fn (by decide)]; exact fm102_75
                        clear em104
                        refine zw_push zr_161_447 ?_
                        refine zw_9 (L' := [(2, 69), (0, i5), (0, 1), (0, i7), (0, r43)]) zr_161_448 (Nat.le_of_ble_eq_true rfl) rfl ?_
                        refine zw_42 zr_161_449 ?_
                        refine zw_42 zr_161_485 ?_
                        exact zw_less (L := [(2, 69), (0, i5), (0, 1), (0, i7), (9, 0)]) ⟨Or.inr rfl, Or.inr rfl, Or.inr rfl, Or.inr rfl, Or.inl rfl, trivial⟩ (ihlp26_15 (i5) (1) (i7) ((f44 + 1)) (p10) (f86) ((f85 + 1)) (f84) (zPt f14 ((f85).toNat) r43) m104 hIm104 hFm104  km104_69_5 km104_69_6 km104_69_7 km104_69_9 km104_69_11 fm104_70 fm104_73 fm104_74 fm104_75 (by omega) (by omega) (by omega) (by omega) (by omega) (by omega) (by omega) (by omega) (by omega) (by omega) (by omega) (by omega) (by omega) (by omega) (by omega) (by omega) (by omega) (by omega) (by first | exact zRdg_o hv4lp26_15 po2_r43 po1_r47 hWs hWv (by omega) rfl (by first | exact Or.inl (by omega) | exact Or.inr (Or.inl (by omega)) | exact Or.inr (Or.inr ⟨_, hK, Or.inl (by omega)⟩) | exact Or.inr (Or.inr ⟨_, hK, Or.inr (by omega)⟩)) (by omega) | (exfalso; omega)) (by omega))
                      · intro h106
                        refine zw_7 zr_161_382 rfl ?_
                        refine zw_46r (s := 74) zr_161_383 rfl rfl rfl rfl ?_
                        refine zw_7 zr_161_386 rfl ?_
                        refine zw_46i zr_161_387 ef85 rfl rfl rfl ?_
                        refine zw_push zr_161_390 ?_
                        refine zw_17 zr_161_391 (by omega) ?_
                        refine zw_48k (c := 74) (len := 128) zr_161_392 rfl rfl (by omega) (by omega) rfl ex98.symm ?_
                        refine zw_C zr_161_393 (Or.inr rfl) zm_155 rfl rfl ⟨Nat.le_of_ble_eq_true rfl, Nat.le_of_ble_eq_true rfl, Nat.le_of_ble_eq_true rfl, rfl, by decide⟩ (by omega) (th_155 (d := d - 1) (by omega) hIm83 (a0 := x98)      (by omega) ) ?_
                        rintro _ _ ⟨r107, rfl, hr107a, hr107b, rfl, po0_r107, po1_r107⟩
                        show zW E (d) 161 396 [(2, 69), (0, i5), (0, i6), (0, i7), (0, r43)] [(0, r107)] m83 Q
                        clear po0_r107
                        refine zw_push zr_161_396 ?_
                        refine zw_41_4 zr_161_397 ?_ ?_
                        · intro h108
                          refine zw_7 zr_161_416 rfl ?_
                          refine zw_43 zr_161_417 rfl ?_
                          refine zw_46i zr_161_418 km83_69_6 rfl rfl rfl ?_
                          refine zw_push zr_161_421 ?_
                          refine zw_16 zr_161_422 (by omega) ?_
                          refine zw_47 (c := 69) zr_161_423 rfl ⟨rfl, by decide, rfl⟩ ?_
                          intro m109 em109
                          have hIm109 : zInv m109 := by rw [em109]; exact hIm83.bd (r := 69) (k := 6) (lo := 0) (hi := 50) rfl (by omega) (by decide) (by decide) (by decide)
                          have hFm109 : zFr W_161 m0 m109 := by rw [em109]; exact hFm83.up rfl
                          have km109_69_5 : m109 69 5 = g0 := by rw [em109, zUp_ne (by decide)]; exact km83_69_5
                          have km109_69_7 : m109 69 7 = p10 := by rw [em109, zUp_ne (by decide)]; exact km83_69_7
                          have km109_69_11 : m109 69 11 = f85 := by rw [em109, zUp_ne (by decide)]; exact ef85
                          have km109_69_9 : m109 69 9 = f86 := by rw [em109, zUp_ne (by decide)]; exact ef86
                          have km109_69_6 : m109 69 6 = (f44 + 1) := by rw [em109]; exact zUp_eq _ _ _ _
                          have fm109_70 : m109 70 = F70 := by rw [em109, zUp_fn (by decide)]; exact fm83_70
                          have fm109_73 : m109 73 = f84 := by rw [em109, zUp_fn (by decide)]; exact fm83_73
                          have fm109_74 : m109 74 = f14 := by rw [em109, zUp_fn (by decide)]; exact fm83_74
                          have fm109_75 : m109 75 = F75 := by rw [em109, zUp_fn (by decide)]; exact fm83_75
                          clear em109
                          refine zw_7 zr_161_426 rfl ?_
                          refine zw_46r (s := 74) zr_161_427 rfl rfl rfl rfl ?_
                          refine zw_7 zr_161_430 rfl ?_
                          refine zw_46i zr_161_431 km109_69_11 rfl rfl rfl ?_
                          refine zw_4 zr_161_434 rfl ?_
                          refine zw_49 (c := 74) (len := 128) zr_161_436 rfl rfl (by omega) (by omega) ?_
                          intro m110 em110
                          have hIm110 : zInv m110 := by rw [em110]; exact iu_74 hIm109 (by omega)
                          have hFm110 : zFr W_161 m0 m110 := by rw [em110]; exact hFm109.any rfl
                          have km110_69_5 : m110 69 5 = g0 := by rw [em110, zUp_ne (fun q => absurd q.1 (by decide))]; exact km109_69_5
                          have km110_69_7 : m110 69 7 = p10 := by rw [em110, zUp_ne (fun q => absurd q.1 (by decide))]; exact km109_69_7
                          have km110_69_11 : m110 69 11 = f85 := by rw [em110, zUp_ne (fun q => absurd q.1 (by decide))]; exact km109_69_11
                          have km110_69_9 : m110 69 9 = f86 := by rw [em110, zUp_ne (fun q => absurd q.1 (by decide))]; exact km109_69_9
                          have km110_69_6 : m110 69 6 = (f44 + 1) := by rw [em110, zUp_ne (fun q => absurd q.1 (by decide))]; exact km109_69_6
                          have fm110_70 : m110 70 = F70 := by rw [em110, zUp_fn (by decide)]; exact fm109_70
                          have fm110_73 : m110 73 = f84 := by rw [em110, zUp_fn (by decide)]; exact fm109_73
                          have fm110_74 : m110 74 = zPt f14 ((f85).toNat) r43 := by rw [em110]; exact (zUp_ff (m := m109)).trans (congrArg (fun q => zPt q ((f85).toNat) r43) fm109_74)
                          have fm110_75 : m110 75 = F75 := by rw [em110, zUp_fn (by decide)]; exact fm109_75
                          clear em110
                          have z111 := zcp_s f14 (f85).toNat (f85 + 1).toNat (r43) (by omega) (by omega)
                          refine zw_7 zr_161_437 rfl ?_
                          refine zw_43 zr_161_438 rfl ?_
                          refine zw_46i zr_161_439 km110_69_11 rfl rfl rfl ?_
                          refine zw_push zr_161_442 ?_
                          refine zw_16 zr_161_443 (by omega) ?_
                          refine zw_47 (c := 69) zr_161_444 rfl ⟨rfl, by decide, rfl⟩ ?_
                          intro m112 em112
                          have hIm112 : zInv m112 := by rw [em112]; exact hIm110.bd (r := 69) (k := 11) (lo := 0) (hi := 128) rfl (by omega) (by decide) (by decide) (by decide)
                          have hFm112 : zFr W_161 m0 m112 := by rw [em112]; exact hFm110.up rfl
                          have km112_69_5 : m112 69 5 = g0 := by rw [em112, zUp_ne (by decide)]; exact km110_69_5
                          have km112_69_7 : m112 69 7 = p10 := by rw [em112, zUp_ne (by decide)]; exact km110_69_7
                          have km112_69_9 : m112 69 9 = f86 := by rw [em112, zUp_ne (by decide)]; exact km110_69_9
                          have km112_69_6 : m112 69 6 = (f44 + 1) := by rw [em112, zUp_ne (by decide)]; exact km110_69_6
                          have km112_69_11 : m112 69 11 = (f85 + 1) := by rw [em112]; exact zUp_eq _ _ _ _
                          have fm112_70 : m112 70 = F70 := by rw [em112, zUp_fn (by decide)]; exact fm110_70
                          have fm112_73 : m112 73 = f84 := by rw [em112, zUp_fn (by decide)]; exact fm110_73
                          have fm112_74 : m112 74 = zPt f14 ((f85).toNat) r43 := by rw [em112, zUp_fn (by decide)]; exact fm110_74
                          have fm112_75 : m112 75 = F75 := by rw [em112, zUp_fn (by decide)]; exact fm110_75
                          clear em112
                          refine zw_push zr_161_447 ?_
                          refine zw_9 (L' := [(2, 69), (0, i5), (0, 1), (0, i7), (0, r43)]) zr_161_448 (Nat.le_of_ble_eq_true rfl) rfl ?_
                          refine zw_42 zr_161_449 ?_
                          refine zw_42 zr_161_485 ?_
                          exact zw_less (L := [(2, 69), (0, i5), (0, 1), (0, i7), (9, 0)]) ⟨Or.inr rfl, Or.inr rfl, Or.inr rfl, Or.inr rfl, Or.inl rfl, trivial⟩ (ihlp26_15 (i5) (1) (i7) ((f44 + 1)) (p10) (f86) ((f85 + 1)) (f84) (zPt f14 ((f85).toNat) r43) m112 hIm112 hFm112  km112_69_5 km112_69_6 km112_69_7 km112_69_9 km112_69_11 fm112_70 fm112_73 fm112_74 fm112_75 (by omega) (by omega) (by omega) (by omega) (by omega) (by omega) (by omega) (by omega) (by omega) (by omega) (by omega) (by omega) (by omega) (by omega) (by omega) (by omega) (by omega) (by omega) (by first | exact zRdg_o hv4lp26_15 po2_r43 po1_r47 hWs hWv (by omega) rfl (by first | exact Or.inl (by omega) | exact Or.inr (Or.inl (by omega)) | exact Or.inr (Or.inr ⟨_, hK, Or.inl (by omega)⟩) | exact Or.inr (Or.inr ⟨_, hK, Or.inr (by omega)⟩)) (by omega) | (exfalso; omega)) (by omega))
                        · intro h114
                          refine zw_7 zr_161_400 rfl ?_
                          refine zw_push zr_161_401 ?_
                          refine zw_7 zr_161_403 rfl ?_
                          refine zw_46i zr_161_404 km83_69_6 rfl rfl rfl ?_
                          refine zw_18 zr_161_407 (by omega) ?_
                          refine zw_push zr_161_408 ?_
                          refine zw_16 zr_161_409 (by omega) ?_
                          refine zw_47 (c := 69) zr_161_410 rfl ⟨rfl, by decide, rfl⟩ ?_
                          intro m115 em115
                          have hIm115 : zInv m115 := by rw [em115]; exact hIm83.any (by omega) rfl (by decide) (by decide)
                          have hFm115 : zFr W_161 m0 m115 := by rw [em115]; exact hFm83.up rfl
                          have km115_69_5 : m115 69 5 = g0 := by rw [em115, zUp_ne (by decide)]; exact km83_69_5
                          have km115_69_6 : m115 69 6 = f44 := by rw [em115, zUp_ne (by decide)]; exact km83_69_6
                          have km115_69_11 : m115 69 11 = f85 := by rw [em115, zUp_ne (by decide)]; exact ef85
                          have km115_69_9 : m115 69 9 = f86 := by rw [em115, zUp_ne (by decide)]; exact ef86
                          have km115_69_7 : m115 69 7 = ((10 * f44) + 1) := by rw [em115]; exact zUp_eq _ _ _ _
                          have fm115_70 : m115 70 = F70 := by rw [em115, zUp_fn (by decide)]; exact fm83_70
                          have fm115_73 : m115 73 = f84 := by rw [em115, zUp_fn (by decide)]; exact fm83_73
                          have fm115_74 : m115 74 = f14 := by rw [em115, zUp_fn (by decide)]; exact fm83_74
                          have fm115_75 : m115 75 = F75 := by rw [em115, zUp_fn (by decide)]; exact fm83_75
                          clear em115
                          refine zw_42 zr_161_413 ?_
                          refine zw_42 zr_161_485 ?_
                          exact zw_less (L := [(2, 69), (0, i5), (0, i6), (0, i7), (9, 0)]) ⟨Or.inr rfl, Or.inr rfl, Or.inr rfl, Or.inr rfl, Or.inl rfl, trivial⟩ (ihlp26_15 (i5) (i6) (i7) (f44) (((10 * f44) + 1)) (f86) (f85) (f84) (f14) m115 hIm115 hFm115  km115_69_5 km115_69_6 km115_69_7 km115_69_9 km115_69_11 fm115_70 fm115_73 fm115_74 fm115_75 (by omega) (by omega) (by omega) (by omega) (by omega) (by omega) (by omega) (by omega) (by omega) (by omega) (by omega) (by omega) (by omega) (by omega) (by omega) (by omega) (by omega) (by omega) (by first | exact zRdg_3 hv4lp26_15 po2_r43 po1_r47 hWs hK po1_r107 (by omega) | (exfalso; omega)) (by omega))
            · intro h117
              refine zw_3 zr_161_261 rfl ?_
              refine zw_40_5 zr_161_262 ?_ ?_
              · intro h118
                refine zw_4 zr_161_319 rfl ?_
                refine zw_C zr_161_321 (Or.inr rfl) zm_155 rfl rfl ⟨Nat.le_of_ble_eq_true rfl, Nat.le_of_ble_eq_true rfl, Nat.le_of_ble_eq_true rfl, rfl, by decide⟩ (by omega) (th_155 (d := d - 1) (by omega) hIm42 (a0 := r43)      (by omega) ) ?_
                rintro _ _ ⟨r119, rfl, hr119a, hr119b, rfl, po0_r119, po1_r119⟩
                show zW E (d) 161 324 [(2, 69), (0, i5), (0, i6), (0, i7), (0, r43)] [(0, r119)] m42 Q
                refine zw_40_5 zr_161_324 ?_ ?_
                · intro h120
                  refine zw_4 zr_161_452 rfl ?_
                  refine zw_push zr_161_454 ?_
                  refine zw_41_4 zr_161_455 ?_ ?_
                  · intro h121
                    refine zw_7 zr_161_472 rfl ?_
                    refine zw_push zr_161_473 ?_
                    refine zw_7 zr_161_475 rfl ?_
                    refine zw_46i zr_161_476 ef44 rfl rfl rfl ?_
                    refine zw_18 zr_161_479 (by omega) ?_
                    refine zw_push zr_161_480 ?_
                    refine zw_16 zr_161_481 (by omega) ?_
                    refine zw_47 (c := 69) zr_161_482 rfl ⟨rfl, by decide, rfl⟩ ?_
                    intro m122 em122
                    have hIm122 : zInv m122 := by rw [em122]; exact hIm42.any (by omega) rfl (by decide) (by decide)
                    have hFm122 : zFr W_161 m0 m122 := by rw [em122]; exact hFm42.up rfl
                    have km122_69_5 : m122 69 5 = g0 := by rw [em122, zUp_ne (by decide)]; exact km42_69_5
                    have km122_69_9 : m122 69 9 = p11 := by rw [em122, zUp_ne (by decide)]; exact km42_69_9
                    have km122_69_11 : m122 69 11 = p12 := by rw [em122, zUp_ne (by decide)]; exact km42_69_11
                    have km122_69_6 : m122 69 6 = f44 := by rw [em122, zUp_ne (by decide)]; exact ef44
                    have km122_69_7 : m122 69 7 = ((10 * f44) + 1) := by rw [em122]; exact zUp_eq _ _ _ _
                    have fm122_70 : m122 70 = F70 := by rw [em122, zUp_fn (by decide)]; exact fm42_70
                    have fm122_73 : m122 73 = f13 := by rw [em122, zUp_fn (by decide)]; exact fm42_73
                    have fm122_74 : m122 74 = f14 := by rw [em122, zUp_fn (by decide)]; exact fm42_74
                    have fm122_75 : m122 75 = F75 := by rw [em122, zUp_fn (by decide)]; exact fm42_75
                    clear em122
                    refine zw_42 zr_161_485 ?_
                    exact zw_less (L := [(2, 69), (0, i5), (0, i6), (0, i7), (9, 0)]) ⟨Or.inr rfl, Or.inr rfl, Or.inr rfl, Or.inr rfl, Or.inl rfl, trivial⟩ (ihlp26_15 (i5) (i6) (i7) (f44) (((10 * f44) + 1)) (p11) (p12) (f13) (f14) m122 hIm122 hFm122  km122_69_5 km122_69_6 km122_69_7 km122_69_9 km122_69_11 fm122_70 fm122_73 fm122_74 fm122_75 (by omega) (by omega) (by omega) (by omega) (by omega) (by omega) (by omega) (by omega) (by omega) (by omega) (by omega) (by omega) (by omega) (by omega) (by omega) (by omega) (by omega) (by omega) (by first | exact zRdg_g hv4lp26_15 po2_r43 (by omega) | (exfalso; omega)) (by omega))
                  · intro h124; omega
                · intro h125
                  have z126 : 33 ≤ r43 := by omega
                  have z127 : f44 ≤ 49 := by omega
                  refine zw_7 zr_161_327 rfl ?_
                  refine zw_4 zr_161_328 rfl ?_
                  refine zw_C zr_161_330 (Or.inr rfl) zm_155 rfl rfl ⟨Nat.le_of_ble_eq_true rfl, Nat.le_of_ble_eq_true rfl, Nat.le_of_ble_eq_true rfl, rfl, by decide⟩ (by omega) (th_155 (d := d - 1) (by omega) hIm42 (a0 := r43)      (by omega) ) ?_
                  rintro _ _ ⟨r128, rfl, hr128a, hr128b, rfl, po0_r128, po1_r128⟩
                  have hrr128 : r119 = r128 := po1_r119.trans po1_r128.symm
                  clear po0_r128 po1_r128
                  subst hrr128
                  show zW E (d) 161 333 [(2, 69), (0, i5), (0, i6), (0, i7), (0, r43)] [(0, r119), (2, 69)] m42 Q
                  refine zw_push zr_161_333 ?_
                  refine zw_41_4 zr_161_334 ?_ ?_
                  · intro h129
                    refine zw_4 zr_161_341 rfl ?_
                    refine zw_C zr_161_343 (Or.inr rfl) zm_155 rfl rfl ⟨Nat.le_of_ble_eq_true rfl, Nat.le_of_ble_eq_true rfl, Nat.le_of_ble_eq_true rfl, rfl, by decide⟩ (by omega) (th_155 (d := d - 1) (by omega) hIm42 (a0 := r43)      (by omega) ) ?_
                    rintro _ _ ⟨r130, rfl, hr130a, hr130b, rfl, po0_r130, po1_r130⟩
                    have hrr130 : r119 = r130 := po1_r119.trans po1_r130.symm
                    clear po0_r130 po1_r130
                    subst hrr130
                    show zW E (d) 161 346 [(2, 69), (0, i5), (0, i6), (0, i7), (0, r43)] [(0, r119), (2, 69)] m42 Q
                    refine zw_C zr_161_346 (Or.inl rfl) zm_157 rfl rfl ⟨Nat.le_of_ble_eq_true rfl, Nat.le_of_ble_eq_true rfl, Nat.le_of_ble_eq_true rfl, rfl, by decide⟩ (by omega) (th_157 (d := d - 1) (by omega) hIm42 (a0 := r119) (g0 := p12) (g1 := p11)  (F73 := f13) (F74 := f14) km42_69_11 km42_69_9 fm42_73 fm42_74 (by omega) (by omega)) ?_
                    rintro _ m131 ⟨rfl, hIm131, gm131, po0_m131, po1_m131, po2_m131, po3_m131, po4_m131, po5_m131⟩
                    have hFm131 : zFr W_161 m0 m131 := hFm42.trans gm131 rfl
                    have km131_69_5 : m131 69 5 = g0 := (gm131 69 5 rfl).trans km42_69_5
                    have km131_69_7 : m131 69 7 = p10 := (gm131 69 7 rfl).trans km42_69_7
                    have km131_69_6 : m131 69 6 = f44 := (gm131 69 6 rfl).trans ef44
                    have fm131_70 : m131 70 = F70 := (funext fun k => gm131 70 k rfl).trans fm42_70
                    obtain ⟨f132, fm131_73⟩ : ∃ f, m131 73 = f := ⟨_, rfl⟩
                    try rw [fm131_73] at po5_m131
                    have fm131_74 : m131 74 = f14 := (funext fun k => gm131 74 k rfl).trans fm42_74
                    have fm131_75 : m131 75 = F75 := (funext fun k => gm131 75 k rfl).trans fm42_75
                    obtain ⟨f133, ef133⟩ : ∃ v, m131 69 11 = v := ⟨_, rfl⟩
                    have bf133 := ib_69_11 hIm131
                    rw [ef133] at bf133
                    rw [ef133] at po0_m131
                    rw [ef133] at po2_m131
                    rw [ef133] at po3_m131
                    rw [ef133] at po4_m131
                    obtain ⟨f134, ef134⟩ : ∃ v, m131 69 9 = v := ⟨_, rfl⟩
                    have bf134 := ib_69_9 hIm131
                    rw [ef134] at bf134
                    rw [ef134] at po1_m131
                    rw [ef134] at po2_m131
                    rw [ef134] at po5_m131
                    show zW E (d) 161 349 [(2, 69), (0, i5), (0, i6), (0, i7), (0, r43)] [] m131 Q
                    have z135 := cB_nn f14 (f133).toNat
                    have hWs := po4_m131
                    have hWv := po5_m131
                    refine zw_4 zr_161_349 rfl ?_
                    refine zw_C zr_161_351 (Or.inr rfl) zm_155 rfl rfl ⟨Nat.le_of_ble_eq_true rfl, Nat.le_of_ble_eq_true rfl, Nat.le_of_ble_eq_true rfl, rfl, by decide⟩ (by omega) (th_155 (d := d - 1) (by omega) hIm131 (a0 := r43)      (by omega) ) ?_
                    rintro _ _ ⟨r136, rfl, hr136a, hr136b, rfl, po0_r136, po1_r136⟩
                    have hrr136 : r119 = r136 := po1_r119.trans po1_r136.symm
                    clear po0_r136 po1_r136
                    subst hrr136
                    show zW E (d) 161 354 [(2, 69), (0, i5), (0, i6), (0, i7), (0, r43)] [(0, r119)] m131 Q
                    refine zw_push zr_161_354 ?_
                    refine zw_41_4 zr_161_355 ?_ ?_
                    · intro h137
                      refine zw_7 zr_161_416 rfl ?_
                      refine zw_43 zr_161_417 rfl ?_
                      refine zw_46i zr_161_418 km131_69_6 rfl rfl rfl ?_
                      refine zw_push zr_161_421 ?_
                      refine zw_16 zr_161_422 (by omega) ?_
                      refine zw_47 (c := 69) zr_161_423 rfl ⟨rfl, by decide, rfl⟩ ?_
                      intro m138 em138
                      have hIm138 : zInv m138 := by rw [em138]; exact hIm131.bd (r := 69) (k := 6) (lo := 0) (hi := 50) rfl (by omega) (by decide) (by decide) (by decide)
                      have hFm138 : zFr W_161 m0 m138 := by rw [em138]; exact hFm131.up rfl
                      have km138_69_5 : m138 69 5 = g0 := by rw [em138, zUp_ne (by decide)]; exact km131_69_5
                      have km138_69_7 : m138 69 7 = p10 := by rw [em138, zUp_ne (by decide)]; exact km131_69_7
                      have km138_69_11 : m138 69 11 = f133 := by rw [em138, zUp_ne (by decide)]; exact ef133
                      have km138_69_9 : m138 69 9 = f134 := by rw [em138, zUp_ne (by decide)]; exact ef134
                      have km138_69_6 : m138 69 6 = (f44 + 1) := by rw [em138]; exact zUp_eq _ _ _ _
                      have fm138_70 : m138 70 = F70 := by rw [em138, zUp_fn (by decide)]; exact fm131_70
                      have fm138_73 : m138 73 = f132 := by rw [em138, zUp_fn (by decide)]; exact fm131_73
                      have fm138_74 : m138 74 = f14 := by rw [em138, zUp_fn (by decide)]; exact fm131_74
                      have fm138_75 : m138 75 = F75 := by rw [em138, zUp_fn (by decide)]; exact fm131_75
                      clear em138
                      refine zw_7 zr_161_426 rfl ?_
                      refine zw_46r (s := 74) zr_161_427 rfl rfl rfl rfl ?_
                      refine zw_7 zr_161_430 rfl ?_
                      refine zw_46i zr_161_431 km138_69_11 rfl rfl rfl ?_
                      refine zw_4 zr_161_434 rfl ?_
                      refine zw_49 (c := 74) (len := 128) zr_161_436 rfl rfl (by omega) (by omega) ?_
                      intro m139 em139
                      have hIm139 : zInv m139 := by rw [em139]; exact iu_74 hIm138 (by omega)
                      have hFm139 : zFr W_161 m0 m139 := by rw [em139]; exact hFm138.any rfl
                      have km139_69_5 : m139 69 5 = g0 := by rw [em139, zUp_ne (fun q => absurd q.1 (by decide))]; exact km138_69_5
                      have km139_69_7 : m139 69 7 = p10 := by rw [em139, zUp_ne (fun q => absurd q.1 (by decide))]; exact km138_69_7
                      have km139_69_11 : m139 69 11 = f133 := by rw [em139, zUp_ne (fun q => absurd q.1 (by decide))]; exact km138_69_11
                      have km139_69_9 : m139 69 9 = f134 := by rw [em139, zUp_ne (fun q => absurd q.1 (by decide))]; exact km138_69_9
                      have km139_69_6 : m139 69 6 = (f44 + 1) := by rw [em139, zUp_ne (fun q => absurd q.1 (by decide))]; exact km138_69_6
                      have fm139_70 : m139 70 = F70 := by rw [em139, zUp_fn (by decide)]; exact fm138_70
                      have fm139_73 : m139 73 = f132 := by rw [em139, zUp_fn (by decide)]; exact fm138_73
                      have fm139_74 : m139 74 = zPt f14 ((f133).toNat) r43 := by rw [em139]; exact (zUp_ff (m := m138)).trans (congrArg (fun q => zPt q ((f133).toNat) r43) fm138_74)
                      have fm139_75 : m139 75 = F75 := by rw [em139, zUp_fn (by decide)]; exact fm138_75
                      clear em139
                      have z140 := zcp_s f14 (f133).toNat (f133 + 1).toNat (r43) (by omega) (by omega)
                      refine zw_7 zr_161_437 rfl ?_
                      refine zw_43 zr_161_438 rfl ?_
                      refine zw_46i zr_161_439 km139_69_11 rfl rfl rfl ?_
                      refine zw_push zr_161_442 ?_
                      refine zw_16 zr_161_443 (by omega) ?_
                      refine zw_47 (c := 69) zr_161_444 rfl ⟨rfl, by decide, rfl⟩ ?_
                      intro m141 em141
                      have hIm141 : zInv m141 := by rw [em141]; exact hIm139.bd (r := 69) (k := 11) (lo := 0) (hi := 128) rfl (by omega) (by decide) (by decide) (by decide)
                      have hFm141 : zFr W_161 m0 m141 := by rw [em141]; exact hFm139.up rfl
                      have km141_69_5 : m141 69 5 = g0 := by rw [em141, zUp_ne (by decide)]; exact km139_69_5
                      have km141_69_7 : m141 69 7 = p10 := by rw [em141, zUp_ne (by decide)]; exact km139_69_7
                      have km141_69_9 : m141 69 9 = f134 := by rw [em141, zUp_ne (by decide)]; exact km139_69_9
                      have km141_69_6 : m141 69 6 = (f44 + 1) := by rw [em141, zUp_ne (by decide)]; exact km139_69_6
                      have km141_69_11 : m141 69 11 = (f133 + 1) := by rw [em141]; exact zUp_eq _ _ _ _
                      have fm141_70 : m141 70 = F70 := by rw [em141, zUp_fn (by decide)]; exact fm139_70
                      have fm141_73 : m141 73 = f132 := by rw [em141, zUp_fn (by decide)]; exact fm139_73
                      have fm141_74 : m141 74 = zPt f14 ((f133).toNat) r43 := by rw [em141, zUp_fn (by decide)]; exact fm139_74
                      have fm141_75 : m141 75 = F75 := by rw [em141, zUp_fn (by decide)]; exact fm139_75
                      clear em141
                      refine zw_push zr_161_447 ?_
                      refine zw_9 (L' := [(2, 69), (0, i5), (0, 1), (0, i7), (0, r43)]) zr_161_448 (Nat.le_of_ble_eq_true rfl) rfl ?_
                      refine zw_42 zr_161_449 ?_
                      refine zw_42 zr_161_485 ?_
                      exact zw_less (L := [(2, 69), (0, i5), (0, 1), (0, i7), (9, 0)]) ⟨Or.inr rfl, Or.inr rfl, Or.inr rfl, Or.inr rfl, Or.inl rfl, trivial⟩ (ihlp26_15 (i5) (1) (i7) ((f44 + 1)) (p10) (f134) ((f133 + 1)) (f132) (zPt f14 ((f133).toNat) r43) m141 hIm141 hFm141  km141_69_5 km141_69_6 km141_69_7 km141_69_9 km141_69_11 fm141_70 fm141_73 fm141_74 fm141_75 (by omega) (by omega) (by omega) (by omega) (by omega) (by omega) (by omega) (by omega) (by omega) (by omega) (by omega) (by omega) (by omega) (by omega) (by omega) (by omega) (by omega) (by omega) (by first | exact zRdg_o hv4lp26_15 po2_r43 po1_r119 hWs hWv (by omega) rfl (by first | exact Or.inl (by omega) | exact Or.inr (Or.inl (by omega)) | exact Or.inr (Or.inr ⟨_, hK, Or.inl (by omega)⟩) | exact Or.inr (Or.inr ⟨_, hK, Or.inr (by omega)⟩)) (by omega) | (exfalso; omega)) (by omega))
                    · intro h143; omega
                  · intro h144
                    refine zw_push zr_161_337 ?_
                    refine zw_42 zr_161_338 ?_
                    refine zw_C zr_161_346 (Or.inl rfl) zm_157 rfl rfl ⟨Nat.le_of_ble_eq_true rfl, Nat.le_of_ble_eq_true rfl, Nat.le_of_ble_eq_true rfl, rfl, by decide⟩ (by omega) (th_157 (d := d - 1) (by omega) hIm42 (a0 := 4) (g0 := p12) (g1 := p11)  (F73 := f13) (F74 := f14) km42_69_11 km42_69_9 fm42_73 fm42_74 (by omega) (by omega)) ?_
                    rintro _ m145 ⟨rfl, hIm145, gm145, po0_m145, po1_m145, po2_m145, po3_m145, po4_m145, po5_m145⟩
                    have hFm145 : zFr W_161 m0 m145 := hFm42.trans gm145 rfl
                    have km145_69_5 : m145 69 5 = g0 := (gm145 69 5 rfl).trans km42_69_5
                    have km145_69_7 : m145 69 7 = p10 := (gm145 69 7 rfl).trans km42_69_7
                    have km145_69_6 : m145 69 6 = f44 := (gm145 69 6 rfl).trans ef44
                    have fm145_70 : m145 70 = F70 := (funext fun k => gm145 70 k rfl).trans fm42_70
                    obtain ⟨f146, fm145_73⟩ : ∃ f, m145 73 = f := ⟨_, rfl⟩
                    try rw [fm145_73] at po5_m145
                    have fm145_74 : m145 74 = f14 := (funext fun k => gm145 74 k rfl).trans fm42_74
                    have fm145_75 : m145 75 = F75 := (funext fun k => gm145 75 k rfl).trans fm42_75
                    obtain ⟨f147, ef147⟩ : ∃ v, m145 69 11 = v := ⟨_, rfl⟩
                    have bf147 := ib_69_11 hIm145
                    rw [ef147] at bf147
                    rw [ef147] at po0_m145
                    rw [ef147] at po2_m145
                    rw [ef147] at po3_m145
                    rw [ef147] at po4_m145
                    obtain ⟨f148, ef148⟩ : ∃ v, m145 69 9 = v := ⟨_, rfl⟩
                    have bf148 := ib_69_9 hIm145
                    rw [ef148] at bf148
                    rw [ef148] at po1_m145
                    rw [ef148] at po2_m145
                    rw [ef148] at po5_m145
                    show zW E (d) 161 349 [(2, 69), (0, i5), (0, i6), (0, i7), (0, r43)] [] m145 Q
                    have z149 := cB_nn f14 (f147).toNat
                    have hWs := po4_m145
                    have hWv := po5_m145
                    refine zw_4 zr_161_349 rfl ?_
                    refine zw_C zr_161_351 (Or.inr rfl) zm_155 rfl rfl ⟨Nat.le_of_ble_eq_true rfl, Nat.le_of_ble_eq_true rfl, Nat.le_of_ble_eq_true rfl, rfl, by decide⟩ (by omega) (th_155 (d := d - 1) (by omega) hIm145 (a0 := r43)      (by omega) ) ?_
                    rintro _ _ ⟨r150, rfl, hr150a, hr150b, rfl, po0_r150, po1_r150⟩
                    have hrr150 : r119 = r150 := po1_r119.trans po1_r150.symm
                    clear po0_r150 po1_r150
                    subst hrr150
                    show zW E (d) 161 354 [(2, 69), (0, i5), (0, i6), (0, i7), (0, r43)] [(0, r119)] m145 Q
                    refine zw_push zr_161_354 ?_
                    refine zw_41_4 zr_161_355 ?_ ?_
                    · intro h151; omega
                    · intro h152
                      refine zw_7 zr_161_358 rfl ?_
                      refine zw_46i zr_161_359 ef147 rfl rfl rfl ?_
                      refine zw_40_5 zr_161_362 ?_ ?_
                      · intro h153
                        refine zw_7 zr_161_416 rfl ?_
                        refine zw_43 zr_161_417 rfl ?_
                        refine zw_46i zr_161_418 km145_69_6 rfl rfl rfl ?_
                        refine zw_push zr_161_421 ?_
                        refine zw_16 zr_161_422 (by omega) ?_
                        refine zw_47 (c := 69) zr_161_423 rfl ⟨rfl, by decide, rfl⟩ ?_
                        intro m154 em154
                        have hIm154 : zInv m154 := by rw [em154]; exact hIm145.bd (r := 69) (k := 6) (lo := 0) (hi := 50) rfl (by omega) (by decide) (by decide) (by decide)
                        have hFm154 : zFr W_161 m0 m154 := by rw [em154]; exact hFm145.up rfl
                        have km154_69_5 : m154 69 5 = g0 := by rw [em154, zUp_ne (by decide)]; exact km145_69_5
                        have km154_69_7 : m154 69 7 = p10 := by rw [em154, zUp_ne (by decide)]; exact km145_69_7
                        have km154_69_11 : m154 69 11 = f147 := by rw [em154, zUp_ne (by decide)]; exact ef147
                        have km154_69_9 : m154 69 9 = f148 := by rw [em154, zUp_ne (by decide)]; exact ef148
                        have km154_69_6 : m154 69 6 = (f44 + 1) := by rw [em154]; exact zUp_eq _ _ _ _
                        have fm154_70 : m154 70 = F70 := by rw [em154, zUp_fn (by decide)]; exact fm145_70
                        have fm154_73 : m154 73 = f146 := by rw [em154, zUp_fn (by decide)]; exact fm145_73
                        have fm154_74 : m154 74 = f14 := by rw [em154, zUp_fn (by decide)]; exact fm145_74
                        have fm154_75 : m154 75 = F75 := by rw [em154, zUp_fn (by decide)]; exact fm145_75
                        clear em154
                        refine zw_7 zr_161_426 rfl ?_
                        refine zw_46r (s := 74) zr_161_427 rfl rfl rfl rfl ?_
                        refine zw_7 zr_161_430 rfl ?_
                        refine zw_46i zr_161_431 km154_69_11 rfl rfl rfl ?_
                        refine zw_4 zr_161_434 rfl ?_
                        refine zw_49 (c := 74) (len := 128) zr_161_436 rfl rfl (by omega) (by omega) ?_
                        intro m155 em155
                        have hIm155 : zInv m155 := by rw [em155]; exact iu_74 hIm154 (by omega)
                        have hFm155 : zFr W_161 m0 m155 := by rw [em155]; exact hFm154.any rfl
                        have km155_69_5 : m155 69 5 = g0 := by rw [em155, zUp_ne (fun q => absurd q.1 (by decide))]; exact km154_69_5
                        have km155_69_7 : m155 69 7 = p10 := by rw [em155, zUp_ne (fun q => absurd q.1 (by decide))]; exact km154_69_7
                        have km155_69_11 : m155 69 11 = f147 := by rw [em155, zUp_ne (fun q => absurd q.1 (by decide))]; exact km154_69_11
                        have km155_69_9 : m155 69 9 = f148 := by rw [em155, zUp_ne (fun q => absurd q.1 (by decide))]; exact km154_69_9
                        have km155_69_6 : m155 69 6 = (f44 + 1) := by rw [em155, zUp_ne (fun q => absurd q.1 (by decide))]; exact km154_69_6
                        have km155_74_0 : m155 74 0 = r43 := by rw [em155, show (f147 : Int).toNat = 0 by omega]; exact zUp_eq _ _ _ _
                        have fm155_70 : m155 70 = F70 := by rw [em155, zUp_fn (by decide)]; exact fm154_70
                        have fm155_73 : m155 73 = f146 := by rw [em155, zUp_fn (by decide)]; exact fm154_73
                        have fm155_74 : m155 74 = zPt f14 ((f147).toNat) r43 := by rw [em155]; exact (zUp_ff (m := m154)).trans (congrArg (fun q => zPt q ((f147).toNat) r43) fm154_74)
                        have fm155_75 : m155 75 = F75 := by rw [em155, zUp_fn (by decide)]; exact fm154_75
                        clear em155
                        have z156 := zcp_s f14 (f147).toNat (f147 + 1).toNat (r43) (by omega) (by omega)
                        refine zw_7 zr_161_437 rfl ?_
                        refine zw_43 zr_161_438 rfl ?_
                        refine zw_46i zr_161_439 km155_69_11 rfl rfl rfl ?_
                        refine zw_push zr_161_442 ?_
                        refine zw_16 zr_161_443 (by omega) ?_
                        refine zw_47 (c := 69) zr_161_444 rfl ⟨rfl, by decide, rfl⟩ ?_
                        intro m157 em157
                        have hIm157 : zInv m157 := by rw [em157]; exact hIm155.bd (r := 69) (k := 11) (lo := 0) (hi := 128) rfl (by omega) (by decide) (by decide) (by decide)
                        have hFm157 : zFr W_161 m0 m157 := by rw [em157]; exact hFm155.up rfl
                        have km157_69_5 : m157 69 5 = g0 := by rw [em157, zUp_ne (by decide)]; exact km155_69_5
                        have km157_69_7 : m157 69 7 = p10 := by rw [em157, zUp_ne (by decide)]; exact km155_69_7
                        have km157_69_9 : m157 69 9 = f148 := by rw [em157, zUp_ne (by decide)]; exact km155_69_9
                        have km157_69_6 : m157 69 6 = (f44 + 1) := by rw [em157, zUp_ne (by decide)]; exact km155_69_6
                        have km157_74_0 : m157 74 0 = r43 := by rw [em157, zUp_ne (fun q => absurd q.1 (by decide))]; exact km155_74_0
                        have km157_69_11 : m157 69 11 = (f147 + 1) := by rw [em157]; exact zUp_eq _ _ _ _
                        have fm157_70 : m157 70 = F70 := by rw [em157, zUp_fn (by decide)]; exact fm155_70
                        have fm157_73 : m157 73 = f146 := by rw [em157, zUp_fn (by decide)]; exact fm155_73
                        have fm157_74 : m157 74 = zPt f14 ((f147).toNat) r43 := by rw [em157, zUp_fn (by decide)]; exact fm155_74
                        have fm157_75 : m157 75 = F75 := by rw [em157, zUp_fn (by decide)]; exact fm155_75
                        clear em157
                        refine zw_push zr_161_447 ?_
                        refine zw_9 (L' := [(2, 69), (0, i5), (0, 1), (0, i7), (0, r43)]) zr_161_448 (Nat.le_of_ble_eq_true rfl) rfl ?_
                        refine zw_42 zr_161_449 ?_
                        refine zw_42 zr_161_485 ?_
                        exact zw_less (L := [(2, 69), (0, i5), (0, 1), (0, i7), (9, 0)]) ⟨Or.inr rfl, Or.inr rfl, Or.inr rfl, Or.inr rfl, Or.inl rfl, trivial⟩ (ihlp26_15 (i5) (1) (i7) ((f44 + 1)) (p10) (f148) ((f147 + 1)) (f146) (zPt f14 ((f147).toNat) r43) m157 hIm157 hFm157  km157_69_5 km157_69_6 km157_69_7 km157_69_9 km157_69_11 fm157_70 fm157_73 fm157_74 fm157_75 (by omega) (by omega) (by omega) (by omega) (by omega) (by omega) (by omega) (by omega) (by omega) (by omega) (by omega) (by omega) (by omega) (by omega) (by omega) (by omega) (by omega) (by omega) (by first | exact zRdg_o hv4lp26_15 po2_r43 po1_r119 hWs hWv (by omega) rfl (by first | exact Or.inl (by omega) | exact Or.inr (Or.inl (by omega)) | exact Or.inr (Or.inr ⟨_, hK, Or.inl (by omega)⟩) | exact Or.inr (Or.inr ⟨_, hK, Or.inr (by omega)⟩)) (by omega) | (exfalso; omega)) (by omega))
                      · intro h159
                        refine zw_7 zr_161_365 rfl ?_
                        refine zw_46r (s := 74) zr_161_366 rfl rfl rfl rfl ?_
                        refine zw_7 zr_161_369 rfl ?_
                        refine zw_46i zr_161_370 ef147 rfl rfl rfl ?_
                        refine zw_push zr_161_373 ?_
                        refine zw_17 zr_161_374 (by omega) ?_
                        refine zw_48 (c := 74) (len := 128) zr_161_375 rfl rfl (by omega) (by omega) ?_
                        intro x160 ex160
                        have bx160 := ib_74 hIm145 (k := ((f147 - 1)).toNat) (by omega)
                        rw [← ex160] at bx160
                        have qx160 : x160 = f14 ((f147 - 1)).toNat := by rw [← fm145_74]; exact ex160
                        refine zw_push zr_161_376 ?_
                        have hK := qx160
                        refine zw_41_3 zr_161_379 ?_ ?_
                        · intro h162
                          refine zw_7 zr_161_416 rfl ?_
                          refine zw_43 zr_161_417 rfl ?_
                          refine zw_46i zr_161_418 km145_69_6 rfl rfl rfl ?_
                          refine zw_push zr_161_421 ?_
                          refine zw_16 zr_161_422 (by omega) ?_
                          refine zw_47 (c := 69) zr_161_423 rfl ⟨rfl, by decide, rfl⟩ ?_
                          intro m163 em163
                          have hIm163 : zInv m163 := by rw [em163]; exact hIm145.bd (r := 69) (k := 6) (lo := 0) (hi := 50) rfl (by omega) (by decide) (by decide) (by decide)
                          have hFm163 : zFr W_161 m0 m163 := by rw [em163]; exact hFm145.up rfl
                          have km163_69_5 : m163 69 5 = g0 := by rw [em163, zUp_ne (by decide)]; exact km145_69_5
                          have km163_69_7 : m163 69 7 = p10 := by rw [em163, zUp_ne (by decide)]; exact km145_69_7
                          have km163_69_11 : m163 69 11 = f147 := by rw [em163, zUp_ne (by decide)]; exact ef147
                          have km163_69_9 : m163 69 9 = f148 := by rw [em163, zUp_ne (by decide)]; exact ef148
                          have km163_69_6 : m163 69 6 = (f44 + 1) := by rw [em163]; exact zUp_eq _ _ _ _
                          have fm163_70 : m163 70 = F70 := by rw [em163, zUp_fn (by decide)]; exact fm145_70
                          have fm163_73 : m163 73 = f146 := by rw [em163, zUp_fn (by decide)]; exact fm145_73
                          have fm163_74 : m163 74 = f14 := by rw [em163, zUp_fn (by decide)]; exact fm145_74
                          have fm163_75 : m163 75 = F75 := by rw [em163, zUp_fn (by decide)]; exact fm145_75
                          clear em163
                          refine zw_7 zr_161_426 rfl ?_
                          refine zw_46r (s := 74) zr_161_427 rfl rfl rfl rfl ?_
                          refine zw_7 zr_161_430 rfl ?_
                          refine zw_46i zr_161_431 km163_69_11 rfl rfl rfl ?_
                          refine zw_4 zr_161_434 rfl ?_
                          refine zw_49 (c := 74) (len := 128) zr_161_436 rfl rfl (by omega) (by omega) ?_
                          intro m164 em164
                          have hIm164 : zInv m164 := by rw [em164]; exact iu_74 hIm163 (by omega)
                          have hFm164 : zFr W_161 m0 m164 := by rw [em164]; exact hFm163.any rfl
                          have km164_69_5 : m164 69 5 = g0 := by rw [em164, zUp_ne (fun q => absurd q.1 (by decide))]; exact km163_69_5
                          have km164_69_7 : m164 69 7 = p10 := by rw [em164, zUp_ne (fun q => absurd q.1 (by decide))]; exact km163_69_7
                          have km164_69_11 : m164 69 11 = f147 := by rw [em164, zUp_ne (fun q => absurd q.1 (by decide))]; exact km163_69_11
                          have km164_69_9 : m164 69 9 = f148 := by rw [em164, zUp_ne (fun q => absurd q.1 (by decide))]; exact km163_69_9
                          have km164_69_6 : m164 69 6 = (f44 + 1) := by rw [em164, zUp_ne (fun q => absurd q.1 (by decide))]; exact km163_69_6
                          have fm164_70 : m164 70 = F70 := by rw [em164, zUp_fn (by decide)]; exact fm163_70
                          have fm164_73 : m164 73 = f146 := by rw [em164, zUp_fn (by decide)]; exact fm163_73
                          have fm164_74 : m164 74 = zPt f14 ((f147).toNat) r43 := by rw [em164]; exact (zUp_ff (m := m163)).trans (congrArg (fun q => zPt q ((f147).toNat) r43) fm163_74)
                          have fm164_75 : m164 75 = F75 := by rw [em164, zUp_fn (by decide)]; exact fm163_75
                          clear em164
                          have z165 := zcp_s f14 (f147).toNat (f147 + 1).toNat (r43) (by omega) (by omega)
                          refine zw_7 zr_161_437 rfl ?_
                          refine zw_43 zr_161_438 rfl ?_
                          refine zw_46i zr_161_439 km164_69_11 rfl rfl rfl ?_
                          refine zw_push zr_161_442 ?_
                          refine zw_16 zr_161_443 (by omega) ?_
                          refine zw_47 (c := 69) zr_161_444 rfl ⟨rfl, by decide, rfl⟩ ?_
                          intro m166 em166
                          have hIm166 : zInv m166 := by rw [em166]; exact hIm164.bd (r := 69) (k := 11) (lo := 0) (hi := 128) rfl (by omega) (by decide) (by decide) (by decide)
                          have hFm166 : zFr W_161 m0 m166 := by rw [em166]; exact hFm164.up rfl
                          have km166_69_5 : m166 69 5 = g0 := by rw [em166, zUp_ne (by decide)]; exact km164_69_5
                          have km166_69_7 : m166 69 7 = p10 := by rw [em166, zUp_ne (by decide)]; exact km164_69_7
                          have km166_69_9 : m166 69 9 = f148 := by rw [em166, zUp_ne (by decide)]; exact km164_69_9
                          have km166_69_6 : m166 69 6 = (f44 + 1) := by rw [em166, zUp_ne (by decide)]; exact km164_69_6
                          have km166_69_11 : m166 69 11 = (f147 + 1) := by rw [em166]; exact zUp_eq _ _ _ _
                          have fm166_70 : m166 70 = F70 := by rw [em166, zUp_fn (by decide)]; exact fm164_70
                          have fm166_73 : m166 73 = f146 := by rw [em166, zUp_fn (by decide)]; exact fm164_73
                          have fm166_74 : m166 74 = zPt f14 ((f147).toNat) r43 := by rw [em166, zUp_fn (by decide)]; exact fm164_74
                          have fm166_75 : m166 75 = F75 := by rw [em166, zUp_fn (by decide)]; exact fm164_75
                          clear em166
                          refine zw_push zr_161_447 ?_
                          refine zw_9 (L' := [(2, 69), (0, i5), (0, 1), (0, i7), (0, r43)]) zr_161_448 (Nat.le_of_ble_eq_true rfl) rfl ?_
                          refine zw_42 zr_161_449 ?_
                          refine zw_42 zr_161_485 ?_
                          exact zw_less (L := [(2, 69), (0, i5), (0, 1), (0, i7), (9, 0)]) ⟨Or.inr rfl, Or.inr rfl, Or.inr rfl, Or.inr rfl, Or.inl rfl, trivial⟩ (ihlp26_15 (i5) (1) (i7) ((f44 + 1)) (p10) (f148) ((f147 + 1)) (f146) (zPt f14 ((f147).toNat) r43) m166 hIm166 hFm166  km166_69_5 km166_69_6 km166_69_7 km166_69_9 km166_69_11 fm166_70 fm166_73 fm166_74 fm166_75 (by omega) (by omega) (by omega) (by omega) (by omega) (by omega) (by omega) (by omega) (by omega) (by omega) (by omega) (by omega) (by omega) (by omega) (by omega) (by omega) (by omega) (by omega) (by first | exact zRdg_o hv4lp26_15 po2_r43 po1_r119 hWs hWv (by omega) rfl (by first | exact Or.inl (by omega) | exact Or.inr (Or.inl (by omega)) | exact Or.inr (Or.inr ⟨_, hK, Or.inl (by omega)⟩) | exact Or.inr (Or.inr ⟨_, hK, Or.inr (by omega)⟩)) (by omega) | (exfalso; omega)) (by omega))
                        · intro h168
                          refine zw_7 zr_161_382 rfl ?_
                          refine zw_46r (s := 74) zr_161_383 rfl rfl rfl rfl ?_
                          refine zw_7 zr_161_386 rfl ?_
                          refine zw_46i zr_161_387 ef147 rfl rfl rfl ?_
                          refine zw_push zr_161_390 ?_
                          refine zw_17 zr_161_391 (by omega) ?_
                          refine zw_48k (c := 74) (len := 128) zr_161_392 rfl rfl (by omega) (by omega) rfl ex160.symm ?_
                          refine zw_C zr_161_393 (Or.inr rfl) zm_155 rfl rfl ⟨Nat.le_of_ble_eq_true rfl, Nat.le_of_ble_eq_true rfl, Nat.le_of_ble_eq_true rfl, rfl, by decide⟩ (by omega) (th_155 (d := d - 1) (by omega) hIm145 (a0 := x160)      (by omega) ) ?_
                          rintro _ _ ⟨r169, rfl, hr169a, hr169b, rfl, po0_r169, po1_r169⟩
                          show zW E (d) 161 396 [(2, 69), (0, i5), (0, i6), (0, i7), (0, r43)] [(0, r169)] m145 Q
                          clear po0_r169
                          refine zw_push zr_161_396 ?_
                          refine zw_41_4 zr_161_397 ?_ ?_
                          · intro h170
                            refine zw_7 zr_161_416 rfl ?_
                            refine zw_43 zr_161_417 rfl ?_
                            refine zw_46i zr_161_418 km145_69_6 rfl rfl rfl ?_
                            refine zw_push zr_161_421 ?_
                            refine zw_16 zr_161_422 (by omega) ?_
                            refine zw_47 (c := 69) zr_161_423 rfl ⟨rfl, by decide, rfl⟩ ?_
                            intro m171 em171
                            have hIm171 : zInv m171 := by rw [em171]; exact hIm145.bd (r := 69) (k := 6) (lo := 0) (hi := 50) rfl (by omega) (by decide) (by decide) (by decide)
                            have hFm171 : zFr W_161 m0 m171 := by rw [em171]; exact hFm145.up rfl
                            have km171_69_5 : m171 69 5 = g0 := by rw [em171, zUp_ne (by decide)]; exact km145_69_5
                            have km171_69_7 : m171 69 7 = p10 := by rw [em171, zUp_ne (by decide)]; exact km145_69_7
                            have km171_69_11 : m171 69 11 = f147 := by rw [em171, zUp_ne (by decide)]; exact ef147
                            have km171_69_9 : m171 69 9 = f148 := by rw [em171, zUp_ne (by decide)]; exact ef148
                            have km171_69_6 : m171 69 6 = (f44 + 1) := by rw [em171]; exact zUp_eq _ _ _ _
                            have fm171_70 : m171 70 = F70 := by rw [em171, zUp_fn (by decide)]; exact fm145_70
                            have fm171_73 : m171 73 = f146 := by rw [em171, zUp_fn (by decide)]; exact fm145_73
                            have fm171_74 : m171 74 = f14 := by rw [em171, zUp_fn (by decide)]; exact fm145_74
                            have fm171_75 : m171 75 = F75 := by rw [em171, zUp_fn (by decide)]; exact fm145_75
                            clear em171
                            refine zw_7 zr_161_426 rfl ?_
                            refine zw_46r (s := 74) zr_161_427 rfl rfl rfl rfl ?_
                            refine zw_7 zr_161_430 rfl ?_
                            refine zw_46i zr_161_431 km171_69_11 rfl rfl rfl ?_
                            refine zw_4 zr_161_434 rfl ?_
                            refine zw_49 (c := 74) (len := 128) zr_161_436 rfl rfl (by omega) (by omega) ?_
                            intro m172 em172
                            have hIm172 : zInv m172 := by rw [em172]; exact iu_74 hIm171 (by omega)
                            have hFm172 : zFr W_161 m0 m172 := by rw [em172]; exact hFm171.any rfl
                            have km172_69_5 : m172 69 5 = g0 := by rw [em172, zUp_ne (fun q => absurd q.1 (by decide))]; exact km171_69_5
                            have km172_69_7 : m172 69 7 = p10 := by rw [em172, zUp_ne (fun q => absurd q.1 (by decide))]; exact km171_69_7
                            have km172_69_11 : m172 69 11 = f147 := by rw [em172, zUp_ne (fun q => absurd q.1 (by decide))]; exact km171_69_11
                            have km172_69_9 : m172 69 9 = f148 := by rw [em172, zUp_ne (fun q => absurd q.1 (by decide))]; exact km171_69_9
                            have km172_69_6 : m172 69 6 = (f44 + 1) := by rw [em172, zUp_ne (fun q => absurd q.1 (by decide))]; exact km171_69_6
                            have fm172_70 : m172 70 = F70 := by rw [em172, zUp_fn (by decide)]; exact fm171_70
                            have fm172_73 : m172 73 = f146 := by rw [em172, zUp_fn (by decide)]; exact fm171_73
                            have fm172_74 : m172 74 = zPt f14 ((f147).toNat) r43 := by rw [em172]; exact (zUp_ff (m := m171)).trans (congrArg (fun q => zPt q ((f147).toNat) r43) fm171_74)
                            have fm172_75 : m172 75 = F75 := by rw [em172, zUp_fn (by decide)]; exact fm171_75
                            clear em172
                            have z173 := zcp_s f14 (f147).toNat (f147 + 1).toNat (r43) (by omega) (by omega)
                            refine zw_7 zr_161_437 rfl ?_
                            refine zw_43 zr_161_438 rfl ?_
                            refine zw_46i zr_161_439 km172_69_11 rfl rfl rfl ?_
                            refine zw_push zr_161_442 ?_
                            refine zw_16 zr_161_443 (by omega) ?_
                            refine zw_47 (c := 69) zr_161_444 rfl ⟨rfl, by decide, rfl⟩ ?_
                            intro m174 em174
                            have hIm174 : zInv m174 := by rw [em174]; exact hIm172.bd (r := 69) (k := 11) (lo := 0) (hi := 128) rfl (by omega) (by decide) (by decide) (by decide)
                            have hFm174 : zFr W_161 m0 m174 := by rw [em174]; exact hFm172.up rfl
                            have km174_69_5 : m174 69 5 = g0 := by rw [em174, zUp_ne (by decide)]; exact km172_69_5
                            have km174_69_7 : m174 69 7 = p10 := by rw [em174, zUp_ne (by decide)]; exact km172_69_7
                            have km174_69_9 : m174 69 9 = f148 := by rw [em174, zUp_ne (by decide)]; exact km172_69_9
                            have km174_69_6 : m174 69 6 = (f44 + 1) := by rw [em174, zUp_ne (by decide)]; exact km172_69_6
                            have km174_69_11 : m174 69 11 = (f147 + 1) := by rw [em174]; exact zUp_eq _ _ _ _
                            have fm174_70 : m174 70 = F70 := by rw [em174, zUp_fn (by decide)]; exact fm172_70
                            have fm174_73 : m174 73 = f146 := by rw [em174, zUp_fn (by decide)]; exact fm172_73
                            have fm174_74 : m174 74 = zPt f14 ((f147).toNat) r43 := by rw [em174, zUp_fn (by decide)]; exact fm172_74
                            have fm174_75 : m174 75 = F75 := by rw [em174, zUp_fn (by decide)]; exact fm172_75
                            clear em174
                            refine zw_push zr_161_447 ?_
                            refine zw_9 (L' := [(2, 69), (0, i5), (0, 1), (0, i7), (0, r43)]) zr_161_448 (Nat.le_of_ble_eq_true rfl) rfl ?_
                            refine zw_42 zr_161_449 ?_
                            refine zw_42 zr_161_485 ?_
                            exact zw_less (L := [(2, 69), (0, i5), (0, 1), (0, i7), (9, 0)]) ⟨Or.inr rfl, Or.inr rfl, Or.inr rfl, Or.inr rfl, Or.inl rfl, trivial⟩ (ihlp26_15 (i5) (1) (i7) ((f44 + 1)) (p10) (f148) ((f147 + 1)) (f146) (zPt f14 ((f147).toNat) r43) m174 hIm174 hFm174  km174_69_5 km174_69_6 km174_69_7 km174_69_9 km174_69_11 fm174_70 fm174_73 fm174_74 fm174_75 (by omega) (by omega) (by omega) (by omega) (by omega) (by omega) (by omega) (by omega) (by omega) (by omega) (by omega) (by omega) (by omega) (by omega) (by omega) (by omega) (by omega) (by omega) (by first | exact zRdg_o hv4lp26_15 po2_r43 po1_r119 hWs hWv (by omega) rfl (by first | exact Or.inl (by omega) | exact Or.inr (Or.inl (by omega)) | exact Or.inr (Or.inr ⟨_, hK, Or.inl (by omega)⟩) | exact Or.inr (Or.inr ⟨_, hK, Or.inr (by omega)⟩)) (by omega) | (exfalso; omega)) (by omega))
                          · intro h176
                            refine zw_7 zr_161_400 rfl ?_
                            refine zw_push zr_161_401 ?_
                            refine zw_7 zr_161_403 rfl ?_
                            refine zw_46i zr_161_404 km145_69_6 rfl rfl rfl ?_
                            refine zw_18 zr_161_407 (by omega) ?_
                            refine zw_push zr_161_408 ?_
                            refine zw_16 zr_161_409 (by omega) ?_
                            refine zw_47 (c := 69) zr_161_410 rfl ⟨rfl, by decide, rfl⟩ ?_
                            intro m177 em177
                            have hIm177 : zInv m177 := by rw [em177]; exact hIm145.any (by omega) rfl (by decide) (by decide)
                            have hFm177 : zFr W_161 m0 m177 := by rw [em177]; exact hFm145.up rfl
                            have km177_69_5 : m177 69 5 = g0 := by rw [em177, zUp_ne (by decide)]; exact km145_69_5
                            have km177_69_6 : m177 69 6 = f44 := by rw [em177, zUp_ne (by decide)]; exact km145_69_6
                            have km177_69_11 : m177 69 11 = f147 := by rw [em177, zUp_ne (by decide)]; exact ef147
                            have km177_69_9 : m177 69 9 = f148 := by rw [em177, zUp_ne (by decide)]; exact ef148
                            have km177_69_7 : m177 69 7 = ((10 * f44) + 1) := by rw [em177]; exact zUp_eq _ _ _ _
                            have fm177_70 : m177 70 = F70 := by rw [em177, zUp_fn (by decide)]; exact fm145_70
                            have fm177_73 : m177 73 = f146 := by rw [em177, zUp_fn (by decide)]; exact fm145_73
                            have fm177_74 : m177 74 = f14 := by rw [em177, zUp_fn (by decide)]; exact fm145_74
                            have fm177_75 : m177 75 = F75 := by rw [em177, zUp_fn (by decide)]; exact fm145_75
                            clear em177
                            refine zw_42 zr_161_413 ?_
                            refine zw_42 zr_161_485 ?_
                            exact zw_less (L := [(2, 69), (0, i5), (0, i6), (0, i7), (9, 0)]) ⟨Or.inr rfl, Or.inr rfl, Or.inr rfl, Or.inr rfl, Or.inl rfl, trivial⟩ (ihlp26_15 (i5) (i6) (i7) (f44) (((10 * f44) + 1)) (f148) (f147) (f146) (f14) m177 hIm177 hFm177  km177_69_5 km177_69_6 km177_69_7 km177_69_9 km177_69_11 fm177_70 fm177_73 fm177_74 fm177_75 (by omega) (by omega) (by omega) (by omega) (by omega) (by omega) (by omega) (by omega) (by omega) (by omega) (by omega) (by omega) (by omega) (by omega) (by omega) (by omega) (by omega) (by omega) (by first | exact zRdg_3 hv4lp26_15 po2_r43 po1_r119 hWs hK po1_r169 (by omega) | (exfalso; omega)) (by omega))
              · intro h179
                have z180 : f44 ≤ 49 := by omega
                refine zw_7 zr_161_265 rfl ?_
                refine zw_43 zr_161_266 rfl ?_
                refine zw_46i zr_161_267 ef44 rfl rfl rfl ?_
                refine zw_push zr_161_270 ?_
                refine zw_16 zr_161_271 (by omega) ?_
                refine zw_47 (c := 69) zr_161_272 rfl ⟨rfl, by decide, rfl⟩ ?_
                intro m181 em181
                have hIm181 : zInv m181 := by rw [em181]; exact hIm42.bd (r := 69) (k := 6) (lo := 0) (hi := 50) rfl (by omega) (by decide) (by decide) (by decide)
                have hFm181 : zFr W_161 m0 m181 := by rw [em181]; exact hFm42.up rfl
                have km181_69_5 : m181 69 5 = g0 := by rw [em181, zUp_ne (by decide)]; exact km42_69_5
                have km181_69_7 : m181 69 7 = p10 := by rw [em181, zUp_ne (by decide)]; exact km42_69_7
                have km181_69_9 : m181 69 9 = p11 := by rw [em181, zUp_ne (by decide)]; exact km42_69_9
                have km181_69_11 : m181 69 11 = p12 := by rw [em181, zUp_ne (by decide)]; exact km42_69_11
                have km181_69_6 : m181 69 6 = (f44 + 1) := by rw [em181]; exact zUp_eq _ _ _ _
                have fm181_70 : m181 70 = F70 := by rw [em181, zUp_fn (by decide)]; exact fm42_70
                have fm181_73 : m181 73 = f13 := by rw [em181, zUp_fn (by decide)]; exact fm42_73
                have fm181_74 : m181 74 = f14 := by rw [em181, zUp_fn (by decide)]; exact fm42_74
                have fm181_75 : m181 75 = F75 := by rw [em181, zUp_fn (by decide)]; exact fm42_75
                clear em181
                refine zw_15 (c := (-1)) (L' := [(2, 69), (0, (i5 + (-1))), (0, i6), (0, i7), (0, r43)]) zr_161_275 rfl (by decide) (by omega) rfl ?_
                refine zw_7 zr_161_278 rfl ?_
                refine zw_push zr_161_279 ?_
                refine zw_C zr_161_280 (Or.inl rfl) zm_157 rfl rfl ⟨Nat.le_of_ble_eq_true rfl, Nat.le_of_ble_eq_true rfl, Nat.le_of_ble_eq_true rfl, rfl, by decide⟩ (by omega) (th_157 (d := d - 1) (by omega) hIm181 (a0 := 1) (g0 := p12) (g1 := p11)  (F73 := f13) (F74 := f14) km181_69_11 km181_69_9 fm181_73 fm181_74 (by omega) (by omega)) ?_
                rintro _ m182 ⟨rfl, hIm182, gm182, po0_m182, po1_m182, po2_m182, po3_m182, po4_m182, po5_m182⟩
                have hFm182 : zFr W_161 m0 m182 := hFm181.trans gm182 rfl
                have km182_69_5 : m182 69 5 = g0 := (gm182 69 5 rfl).trans km181_69_5
                have km182_69_7 : m182 69 7 = p10 := (gm182 69 7 rfl).trans km181_69_7
                have km182_69_6 : m182 69 6 = (f44 + 1) := (gm182 69 6 rfl).trans km181_69_6
                have fm182_70 : m182 70 = F70 := (funext fun k => gm182 70 k rfl).trans fm181_70
                obtain ⟨f183, fm182_73⟩ : ∃ f, m182 73 = f := ⟨_, rfl⟩
                try rw [fm182_73] at po5_m182
                have fm182_74 : m182 74 = f14 := (funext fun k => gm182 74 k rfl).trans fm181_74
                have fm182_75 : m182 75 = F75 := (funext fun k => gm182 75 k rfl).trans fm181_75
                obtain ⟨f184, ef184⟩ : ∃ v, m182 69 11 = v := ⟨_, rfl⟩
                have bf184 := ib_69_11 hIm182
                rw [ef184] at bf184
                rw [ef184] at po0_m182
                rw [ef184] at po2_m182
                rw [ef184] at po3_m182
                rw [ef184] at po4_m182
                obtain ⟨f185, ef185⟩ : ∃ v, m182 69 9 = v := ⟨_, rfl⟩
                have bf185 := ib_69_9 hIm182
                rw [ef185] at bf185
                rw [ef185] at po1_m182
                rw [ef185] at po2_m182
                rw [ef185] at po5_m182
                show zW E (d) 161 283 [(2, 69), (0, (i5 + (-1))), (0, i6), (0, i7), (0, r43)] [] m182 Q
                have z186 := cB_nn f14 (f184).toNat
                have hWs := po4_m182
                have hWv := po5_m182
                have z187 := zcw f14 (f184 - 1).toNat (f184).toNat (by omega)
                refine zw_7 zr_161_283 rfl ?_
                refine zw_43 zr_161_284 rfl ?_
                refine zw_46i zr_161_285 ef184 rfl rfl rfl ?_
                refine zw_push zr_161_288 ?_
                refine zw_17 zr_161_289 (by omega) ?_
                refine zw_47 (c := 69) zr_161_290 rfl ⟨rfl, by decide, rfl⟩ ?_
                intro m188 em188
                have hIm188 : zInv m188 := by rw [em188]; exact hIm182.bd (r := 69) (k := 11) (lo := 0) (hi := 128) rfl (by omega) (by decide) (by decide) (by decide)
                have hFm188 : zFr W_161 m0 m188 := by rw [em188]; exact hFm182.up rfl
                have km188_69_5 : m188 69 5 = g0 := by rw [em188, zUp_ne (by decide)]; exact km182_69_5
                have km188_69_7 : m188 69 7 = p10 := by rw [em188, zUp_ne (by decide)]; exact km182_69_7
                have km188_69_6 : m188 69 6 = (f44 + 1) := by rw [em188, zUp_ne (by decide)]; exact km182_69_6
                have km188_69_9 : m188 69 9 = f185 := by rw [em188, zUp_ne (by decide)]; exact ef185
                have km188_69_11 : m188 69 11 = (f184 - 1) := by rw [em188]; exact zUp_eq _ _ _ _
                have fm188_70 : m188 70 = F70 := by rw [em188, zUp_fn (by decide)]; exact fm182_70
                have fm188_73 : m188 73 = f183 := by rw [em188, zUp_fn (by decide)]; exact fm182_73
                have fm188_74 : m188 74 = f14 := by rw [em188, zUp_fn (by decide)]; exact fm182_74
                have fm188_75 : m188 75 = F75 := by rw [em188, zUp_fn (by decide)]; exact fm182_75
                clear em188
                refine zw_7 zr_161_293 rfl ?_
                refine zw_43 zr_161_294 rfl ?_
                refine zw_46i zr_161_295 km188_69_9 rfl rfl rfl ?_
                refine zw_push zr_161_298 ?_
                refine zw_17 zr_161_299 (by omega) ?_
                refine zw_47 (c := 69) zr_161_300 rfl ⟨rfl, by decide, rfl⟩ ?_
                intro m189 em189
                have hIm189 : zInv m189 := by rw [em189]; exact hIm188.bd (r := 69) (k := 9) (lo := 0) (hi := 64) rfl (by omega) (by decide) (by decide) (by decide)
                have hFm189 : zFr W_161 m0 m189 := by rw [em189]; exact hFm188.up rfl
                have km189_69_5 : m189 69 5 = g0 := by rw [em189, zUp_ne (by decide)]; exact km188_69_5
                have km189_69_7 : m189 69 7 = p10 := by rw [em189, zUp_ne (by decide)]; exact km188_69_7
                have km189_69_6 : m189 69 6 = (f44 + 1) := by rw [em189, zUp_ne (by decide)]; exact km188_69_6
                have km189_69_11 : m189 69 11 = (f184 - 1) := by rw [em189, zUp_ne (by decide)]; exact km188_69_11
                have km189_69_9 : m189 69 9 = (f185 - 1) := by rw [em189]; exact zUp_eq _ _ _ _
                have fm189_70 : m189 70 = F70 := by rw [em189, zUp_fn (by decide)]; exact fm188_70
                have fm189_73 : m189 73 = f183 := by rw [em189, zUp_fn (by decide)]; exact fm188_73
                have fm189_74 : m189 74 = f14 := by rw [em189, zUp_fn (by decide)]; exact fm188_74
                have fm189_75 : m189 75 = F75 := by rw [em189, zUp_fn (by decide)]; exact fm188_75
                clear em189
                refine zw_7 zr_161_303 rfl ?_
                refine zw_7 zr_161_304 rfl ?_
                refine zw_46r (s := 73) zr_161_305 rfl rfl rfl rfl ?_
                refine zw_7 zr_161_308 rfl ?_
                refine zw_46i zr_161_309 km189_69_9 rfl rfl rfl ?_
                refine zw_50 (c := 73) (len := 64) zr_161_312 rfl rfl (by omega) (by omega) ?_
                intro x190 ex190
                have bx190 := hIm189.rl (c := 73) (len := 64) (k := ((f185 - 1)).toNat) rfl (by omega)
                rw [← ex190] at bx190
                have qx190 : x190 = f183 ((f185 - 1)).toNat := by rw [← fm189_73]; exact ex190
                clear ex190
                refine zw_C zr_161_313 (Or.inl rfl) zm_158 rfl rfl ⟨Nat.le_of_ble_eq_true rfl, Nat.le_of_ble_eq_true rfl, Nat.le_of_ble_eq_true rfl, rfl, by decide⟩ (by omega) (th_158 (d := d - 1) (by omega) hIm189 (a0 := x190) (g0 := (f184 - 1)) (g1 := (f185 - 1))  (F73 := f183) (F74 := f14) km189_69_11 km189_69_9 fm189_73 fm189_74 (by omega) (by omega)) ?_
                rintro _ m191 ⟨rfl, hIm191, gm191, po0_m191, po1_m191, po2_m191, po3_m191, po4_m191, po5_m191⟩
                have hFm191 : zFr W_161 m0 m191 := hFm189.trans gm191 rfl
                have km191_69_5 : m191 69 5 = g0 := (gm191 69 5 rfl).trans km189_69_5
                have km191_69_7 : m191 69 7 = p10 := (gm191 69 7 rfl).trans km189_69_7
                have km191_69_6 : m191 69 6 = (f44 + 1) := (gm191 69 6 rfl).trans km189_69_6
                have fm191_70 : m191 70 = F70 := (funext fun k => gm191 70 k rfl).trans fm189_70
                obtain ⟨f192, fm191_73⟩ : ∃ f, m191 73 = f := ⟨_, rfl⟩
                try rw [fm191_73] at po4_m191
                have fm191_74 : m191 74 = f14 := (funext fun k => gm191 74 k rfl).trans fm189_74
                have fm191_75 : m191 75 = F75 := (funext fun k => gm191 75 k rfl).trans fm189_75
                obtain ⟨f193, ef193⟩ : ∃ v, m191 69 11 = v := ⟨_, rfl⟩
                have bf193 := ib_69_11 hIm191
                rw [ef193] at bf193
                rw [ef193] at po0_m191
                rw [ef193] at po1_m191
                rw [ef193] at po2_m191
                rw [ef193] at po3_m191
                show zW E (d) 161 316 [(2, 69), (0, (i5 + (-1))), (0, i6), (0, i7), (0, r43)] [] m191 Q
                have z194 := cB_nn f14 (f193).toNat
                have hSs := po3_m191
                have hSg := po4_m191
                refine zw_42 zr_161_316 ?_
                refine zw_42 zr_161_485 ?_
                exact zw_less (L := [(2, 69), (0, (i5 + (-1))), (0, i6), (0, i7), (9, 0)]) ⟨Or.inr rfl, Or.inr rfl, Or.inr rfl, Or.inr rfl, Or.inl rfl, trivial⟩ (ihlp26_15 ((i5 + (-1))) (i6) (i7) ((f44 + 1)) (p10) (((f185 - 1) + 1)) (f193) (f192) (f14) m191 hIm191 hFm191  km191_69_5 km191_69_6 km191_69_7 po5_m191 ef193 fm191_70 fm191_73 fm191_74 fm191_75 (by omega) (by omega) (by omega) (by omega) (by omega) (by omega) (by omega) (by omega) (by omega) (by omega) (by omega) (by omega) (by omega) (by omega) (by omega) (by omega) (by omega) (by omega) (by first | exact zRdg_c hv4lp26_15 po2_r43 hWs hWv qx190 hSs hSg (by omega) | (exfalso; omega)) (by omega))
          · intro h196
            refine zw_4 zr_161_48 rfl ?_
            refine zw_36 zr_161_50 ?_
            refine zw_push zr_161_51 ?_
            refine zw_push zr_161_54 ?_
            refine zw_C zr_161_57 (Or.inr rfl) zm_140 rfl rfl ⟨Nat.le_of_ble_eq_true rfl, Nat.le_of_ble_eq_true rfl, Nat.le_of_ble_eq_true rfl, rfl, by decide⟩ (by omega) (P := (fun v m' => zW E (d) 161 60 [(2, 69), (0, i5), (0, i6), (0, i7), (0, r43)] (if v.1 = 9 then [] else v :: []) m' Q)) ?_ (fun _ _ h => h)
            generalize hQ1 : (fun v m' => zW E (d) 161 60 [(2, 69), (0, i5), (0, i6), (0, i7), (0, r43)] (if v.1 = 9 then [] else v :: []) m' Q) = Q1
            show zW E (d - 1) 140 0 [(1, r43), (9, 0), (1, 48), (9, 0), (1, 57), (9, 0)] [] m42 Q1
            refine zw_5 zr_140_0 rfl ?_
            refine zw_5 zr_140_1 rfl ?_
            refine zw_39_0 zr_140_2 zr_140_3 ?_ ?_
            · intro h197
              refine zw_push zr_140_17 ?_
              refine zw_R zr_140_18 (by decide) zm_140 (v := (0, 0)) (zRetB (by omega)) ?_
              rw [← hQ1]
              show zW E (d) 161 60 [(2, 69), (0, i5), (0, i6), (0, i7), (0, r43)] [(0, 0)] m42 Q
              refine zw_40_1 zr_161_60 ?_ ?_
              · intro h198
                refine zw_4 zr_161_76 rfl ?_
                refine zw_C zr_161_78 (Or.inr rfl) zm_159 rfl rfl ⟨Nat.le_of_ble_eq_true rfl, Nat.le_of_ble_eq_true rfl, Nat.le_of_ble_eq_true rfl, rfl, by decide⟩ (by omega) (th_159 (d := d - 1) (by omega) hIm42 (a0 := r43)      (by omega) ) ?_
                rintro _ _ ⟨r199, rfl, hr199a, hr199b, rfl, po0_r199, po1_r199⟩
                show zW E (d) 161 81 [(2, 69), (0, i5), (0, i6), (0, i7), (0, r43)] [(0, r199)] m42 Q
                refine zw_push zr_161_81 ?_
                refine zw_41_1 zr_161_82 ?_ ?_
                · intro h200
                  refine zw_4 zr_161_114 rfl ?_
                  refine zw_push zr_161_116 ?_
                  refine zw_41_1 zr_161_118 ?_ ?_
                  · intro h201
                    have z202 : f44 ≤ 49 := by omega
                    refine zw_7 zr_161_128 rfl ?_
                    refine zw_43 zr_161_129 rfl ?_
                    refine zw_46i zr_161_130 ef44 rfl rfl rfl ?_
                    refine zw_push zr_161_133 ?_
                    refine zw_16 zr_161_134 (by omega) ?_
                    refine zw_47 (c := 69) zr_161_135 rfl ⟨rfl, by decide, rfl⟩ ?_
                    intro m203 em203
                    have hIm203 : zInv m203 := by rw [em203]; exact hIm42.bd (r := 69) (k := 6) (lo := 0) (hi := 50) rfl (by omega) (by decide) (by decide) (by decide)
                    have hFm203 : zFr W_161 m0 m203 := by rw [em203]; exact hFm42.up rfl
                    have km203_69_5 : m203 69 5 = g0 := by rw [em203, zUp_ne (by decide)]; exact km42_69_5
                    have km203_69_7 : m203 69 7 = p10 := by rw [em203, zUp_ne (by decide)]; exact km42_69_7
                    have km203_69_9 : m203 69 9 = p11 := by rw [em203, zUp_ne (by decide)]; exact km42_69_9
                    have km203_69_11 : m203 69 11 = p12 := by rw [em203, zUp_ne (by decide)]; exact km42_69_11
                    have km203_69_6 : m203 69 6 = (f44 + 1) := by rw [em203]; exact zUp_eq _ _ _ _
                    have fm203_70 : m203 70 = F70 := by rw [em203, zUp_fn (by decide)]; exact fm42_70
                    have fm203_73 : m203 73 = f13 := by rw [em203, zUp_fn (by decide)]; exact fm42_73
                    have fm203_74 : m203 74 = f14 := by rw [em203, zUp_fn (by decide)]; exact fm42_74
                    have fm203_75 : m203 75 = F75 := by rw [em203, zUp_fn (by decide)]; exact fm42_75
                    clear em203
                    refine zw_7 zr_161_138 rfl ?_
                    refine zw_46r (s := 74) zr_161_139 rfl rfl rfl rfl ?_
                    refine zw_7 zr_161_142 rfl ?_
                    refine zw_46i zr_161_143 km203_69_11 rfl rfl rfl ?_
                    refine zw_4 zr_161_146 rfl ?_
                    refine zw_push zr_161_148 ?_
                    refine zw_41_4 zr_161_150 ?_ ?_
                    · intro h204; omega
                    · intro h205
                      refine zw_push zr_161_153 ?_
                      refine zw_42 zr_161_156 ?_
                      refine zw_49 (c := 74) (len := 128) zr_161_162 rfl rfl (by omega) (by omega) ?_
                      intro m206 em206
                      have hIm206 : zInv m206 := by rw [em206]; exact iu_74 hIm203 (by omega)
                      have hFm206 : zFr W_161 m0 m206 := by rw [em206]; exact hFm203.any rfl
                      have km206_69_5 : m206 69 5 = g0 := by rw [em206, zUp_ne (fun q => absurd q.1 (by decide))]; exact km203_69_5
                      have km206_69_7 : m206 69 7 = p10 := by rw [em206, zUp_ne (fun q => absurd q.1 (by decide))]; exact km203_69_7
                      have km206_69_9 : m206 69 9 = p11 := by rw [em206, zUp_ne (fun q => absurd q.1 (by decide))]; exact km203_69_9
                      have km206_69_11 : m206 69 11 = p12 := by rw [em206, zUp_ne (fun q => absurd q.1 (by decide))]; exact km203_69_11
                      have km206_69_6 : m206 69 6 = (f44 + 1) := by rw [em206, zUp_ne (fun q => absurd q.1 (by decide))]; exact km203_69_6
                      have fm206_70 : m206 70 = F70 := by rw [em206, zUp_fn (by decide)]; exact fm203_70
                      have fm206_73 : m206 73 = f13 := by rw [em206, zUp_fn (by decide)]; exact fm203_73
                      have fm206_74 : m206 74 = zPt f14 ((p12).toNat) 1001 := by rw [em206]; exact (zUp_ff (m := m203)).trans (congrArg (fun q => zPt q ((p12).toNat) 1001) fm203_74)
                      have fm206_75 : m206 75 = F75 := by rw [em206, zUp_fn (by decide)]; exact fm203_75
                      clear em206
                      have z207 := zcp_u f14 (p12).toNat (p12 + 1).toNat (1001) (by omega) (by omega)
                      refine zw_7 zr_161_163 rfl ?_
                      refine zw_43 zr_161_164 rfl ?_
                      refine zw_46i zr_161_165 km206_69_11 rfl rfl rfl ?_
                      refine zw_push zr_161_168 ?_
                      refine zw_16 zr_161_169 (by omega) ?_
                      refine zw_47 (c := 69) zr_161_170 rfl ⟨rfl, by decide, rfl⟩ ?_
                      intro m208 em208
                      have hIm208 : zInv m208 := by rw [em208]; exact hIm206.bd (r := 69) (k := 11) (lo := 0) (hi := 128) rfl (by omega) (by decide) (by decide) (by decide)
                      have hFm208 : zFr W_161 m0 m208 := by rw [em208]; exact hFm206.up rfl
                      have km208_69_5 : m208 69 5 = g0 := by rw [em208, zUp_ne (by decide)]; exact km206_69_5
                      have km208_69_7 : m208 69 7 = p10 := by rw [em208, zUp_ne (by decide)]; exact km206_69_7
                      have km208_69_9 : m208 69 9 = p11 := by rw [em208, zUp_ne (by decide)]; exact km206_69_9
                      have km208_69_6 : m208 69 6 = (f44 + 1) := by rw [em208, zUp_ne (by decide)]; exact km206_69_6
                      have km208_69_11 : m208 69 11 = (p12 + 1) := by rw [em208]; exact zUp_eq _ _ _ _
                      have fm208_70 : m208 70 = F70 := by rw [em208, zUp_fn (by decide)]; exact fm206_70
                      have fm208_73 : m208 73 = f13 := by rw [em208, zUp_fn (by decide)]; exact fm206_73
                      have fm208_74 : m208 74 = zPt f14 ((p12).toNat) 1001 := by rw [em208, zUp_fn (by decide)]; exact fm206_74
                      have fm208_75 : m208 75 = F75 := by rw [em208, zUp_fn (by decide)]; exact fm206_75
                      clear em208
                      refine zw_42 zr_161_173 ?_
                      refine zw_42 zr_161_485 ?_
                      exact zw_less (L := [(2, 69), (0, i5), (0, i6), (0, i7), (9, 0)]) ⟨Or.inr rfl, Or.inr rfl, Or.inr rfl, Or.inr rfl, Or.inl rfl, trivial⟩ (ihlp26_15 (i5) (i6) (i7) ((f44 + 1)) (p10) (p11) ((p12 + 1)) (f13) (zPt f14 ((p12).toNat) 1001) m208 hIm208 hFm208  km208_69_5 km208_69_6 km208_69_7 km208_69_9 km208_69_11 fm208_70 fm208_73 fm208_74 fm208_75 (by omega) (by omega) (by omega) (by omega) (by omega) (by omega) (by omega) (by omega) (by omega) (by omega) (by omega) (by omega) (by omega) (by omega) (by omega) (by omega) (by omega) (by omega) (by first | exact zRdg_u hv4lp26_15 po2_r43 rfl (by omega) | (exfalso; omega)) (by omega))
                  · intro h210
                    refine zw_4 zr_161_121 rfl ?_
                    refine zw_push zr_161_123 ?_
                    refine zw_41_4 zr_161_125 ?_ ?_
                    · intro h211
                      refine zw_4 zr_161_176 rfl ?_
                      refine zw_push zr_161_178 ?_
                      refine zw_41_4 zr_161_180 ?_ ?_
                      · intro h212
                        refine zw_7 zr_161_227 rfl ?_
                        refine zw_push zr_161_228 ?_
                        refine zw_7 zr_161_230 rfl ?_
                        refine zw_46i zr_161_231 ef44 rfl rfl rfl ?_
                        refine zw_18 zr_161_234 (by omega) ?_
                        refine zw_4 zr_161_235 rfl ?_
                        refine zw_push zr_161_237 ?_
                        refine zw_41_4 zr_161_239 ?_ ?_
                        · intro h213
                          refine zw_push zr_161_246 ?_
                          refine zw_16 zr_161_247 (by omega) ?_
                          refine zw_47 (c := 69) zr_161_248 rfl ⟨rfl, by decide, rfl⟩ ?_
                          intro m214 em214
                          have hIm214 : zInv m214 := by rw [em214]; exact hIm42.any (by omega) rfl (by decide) (by decide)
                          have hFm214 : zFr W_161 m0 m214 := by rw [em214]; exact hFm42.up rfl
                          have km214_69_5 : m214 69 5 = g0 := by rw [em214, zUp_ne (by decide)]; exact km42_69_5
                          have km214_69_9 : m214 69 9 = p11 := by rw [em214, zUp_ne (by decide)]; exact km42_69_9
                          have km214_69_11 : m214 69 11 = p12 := by rw [em214, zUp_ne (by decide)]; exact km42_69_11
                          have km214_69_6 : m214 69 6 = f44 := by rw [em214, zUp_ne (by decide)]; exact ef44
                          have km214_69_7 : m214 69 7 = ((10 * f44) + 1) := by rw [em214]; exact zUp_eq _ _ _ _
                          have fm214_70 : m214 70 = F70 := by rw [em214, zUp_fn (by decide)]; exact fm42_70
                          have fm214_73 : m214 73 = f13 := by rw [em214, zUp_fn (by decide)]; exact fm42_73
                          have fm214_74 : m214 74 = f14 := by rw [em214, zUp_fn (by decide)]; exact fm42_74
                          have fm214_75 : m214 75 = F75 := by rw [em214, zUp_fn (by decide)]; exact fm42_75
                          clear em214
                          refine zw_42 zr_161_251 ?_
                          refine zw_42 zr_161_485 ?_
                          exact zw_less (L := [(2, 69), (0, i5), (0, i6), (0, i7), (9, 0)]) ⟨Or.inr rfl, Or.inr rfl, Or.inr rfl, Or.inr rfl, Or.inl rfl, trivial⟩ (ihlp26_15 (i5) (i6) (i7) (f44) (((10 * f44) + 1)) (p11) (p12) (f13) (f14) m214 hIm214 hFm214  km214_69_5 km214_69_6 km214_69_7 km214_69_9 km214_69_11 fm214_70 fm214_73 fm214_74 fm214_75 (by omega) (by omega) (by omega) (by omega) (by omega) (by omega) (by omega) (by omega) (by omega) (by omega) (by omega) (by omega) (by omega) (by omega) (by omega) (by omega) (by omega) (by omega) (by first | exact zRdg_f hv4lp26_15 po2_r43 (by omega) (by omega) | (exfalso; omega)) (by omega))
                        · intro h216; omega
                      · intro h217
                        refine zw_3 zr_161_183 rfl ?_
                        refine zw_push zr_161_184 ?_
                        refine zw_41_3 zr_161_186 ?_ ?_
                        · intro h218
                          refine zw_7 zr_161_227 rfl ?_
                          refine zw_push zr_161_228 ?_
                          refine zw_7 zr_161_230 rfl ?_
                          refine zw_46i zr_161_231 ef44 rfl rfl rfl ?_
                          refine zw_18 zr_161_234 (by omega) ?_
                          refine zw_4 zr_161_235 rfl ?_
                          refine zw_push zr_161_237 ?_
                          refine zw_41_4 zr_161_239 ?_ ?_
                          · intro h219; omega
                          · intro h220
                            refine zw_push zr_161_242 ?_
                            refine zw_42 zr_161_243 ?_
                            refine zw_16 zr_161_247 (by omega) ?_
                            refine zw_47 (c := 69) zr_161_248 rfl ⟨rfl, by decide, rfl⟩ ?_
                            intro m221 em221
                            have hIm221 : zInv m221 := by rw [em221]; exact hIm42.any (by omega) rfl (by decide) (by decide)
                            have hFm221 : zFr W_161 m0 m221 := by rw [em221]; exact hFm42.up rfl
                            have km221_69_5 : m221 69 5 = g0 := by rw [em221, zUp_ne (by decide)]; exact km42_69_5
                            have km221_69_9 : m221 69 9 = p11 := by rw [em221, zUp_ne (by decide)]; exact km42_69_9
                            have km221_69_11 : m221 69 11 = p12 := by rw [em221, zUp_ne (by decide)]; exact km42_69_11
                            have km221_69_6 : m221 69 6 = f44 := by rw [em221, zUp_ne (by decide)]; exact ef44
                            have km221_69_7 : m221 69 7 = ((10 * f44) + 3) := by rw [em221]; exact zUp_eq _ _ _ _
                            have fm221_70 : m221 70 = F70 := by rw [em221, zUp_fn (by decide)]; exact fm42_70
                            have fm221_73 : m221 73 = f13 := by rw [em221, zUp_fn (by decide)]; exact fm42_73
                            have fm221_74 : m221 74 = f14 := by rw [em221, zUp_fn (by decide)]; exact fm42_74
                            have fm221_75 : m221 75 = F75 := by rw [em221, zUp_fn (by decide)]; exact fm42_75
                            clear em221
                            refine zw_42 zr_161_251 ?_
                            refine zw_42 zr_161_485 ?_
                            exact zw_less (L := [(2, 69), (0, i5), (0, i6), (0, i7), (9, 0)]) ⟨Or.inr rfl, Or.inr rfl, Or.inr rfl, Or.inr rfl, Or.inl rfl, trivial⟩ (ihlp26_15 (i5) (i6) (i7) (f44) (((10 * f44) + 3)) (p11) (p12) (f13) (f14) m221 hIm221 hFm221  km221_69_5 km221_69_6 km221_69_7 km221_69_9 km221_69_11 fm221_70 fm221_73 fm221_74 fm221_75 (by omega) (by omega) (by omega) (by omega) (by omega) (by omega) (by omega) (by omega) (by omega) (by omega) (by omega) (by omega) (by omega) (by omega) (by omega) (by omega) (by omega) (by omega) (by first | exact zRdg_f hv4lp26_15 po2_r43 (by omega) (by omega) | (exfalso; omega)) (by omega))
                        · intro h223
                          have z224 : f44 ≤ 49 := by omega
                          refine zw_7 zr_161_189 rfl ?_
                          refine zw_43 zr_161_190 rfl ?_
                          refine zw_46i zr_161_191 ef44 rfl rfl rfl ?_
                          refine zw_push zr_161_194 ?_
                          refine zw_16 zr_161_195 (by omega) ?_
                          refine zw_47 (c := 69) zr_161_196 rfl ⟨rfl, by decide, rfl⟩ ?_
                          intro m225 em225
                          have hIm225 : zInv m225 := by rw [em225]; exact hIm42.bd (r := 69) (k := 6) (lo := 0) (hi := 50) rfl (by omega) (by decide) (by decide) (by decide)
                          have hFm225 : zFr W_161 m0 m225 := by rw [em225]; exact hFm42.up rfl
                          have km225_69_5 : m225 69 5 = g0 := by rw [em225, zUp_ne (by decide)]; exact km42_69_5
                          have km225_69_7 : m225 69 7 = p10 := by rw [em225, zUp_ne (by decide)]; exact km42_69_7
                          have km225_69_9 : m225 69 9 = p11 := by rw [em225, zUp_ne (by decide)]; exact km42_69_9
                          have km225_69_11 : m225 69 11 = p12 := by rw [em225, zUp_ne (by decide)]; exact km42_69_11
                          have km225_69_6 : m225 69 6 = (f44 + 1) := by rw [em225]; exact zUp_eq _ _ _ _
                          have fm225_70 : m225 70 = F70 := by rw [em225, zUp_fn (by decide)]; exact fm42_70
                          have fm225_73 : m225 73 = f13 := by rw [em225, zUp_fn (by decide)]; exact fm42_73
                          have fm225_74 : m225 74 = f14 := by rw [em225, zUp_fn (by decide)]; exact fm42_74
                          have fm225_75 : m225 75 = F75 := by rw [em225, zUp_fn (by decide)]; exact fm42_75
                          clear em225
                          refine zw_15 (c := 1) (L' := [(2, 69), (0, (i5 + 1)), (0, i6), (0, i7), (0, r43)]) zr_161_199 rfl (by decide) (by omega) rfl ?_
                          refine zw_7 zr_161_202 rfl ?_
                          refine zw_46r (s := 74) zr_161_203 rfl rfl rfl rfl ?_
                          refine zw_7 zr_161_206 rfl ?_
                          refine zw_46i zr_161_207 km225_69_11 rfl rfl rfl ?_
                          refine zw_push zr_161_210 ?_
                          refine zw_49 (c := 74) (len := 128) zr_161_213 rfl rfl (by omega) (by omega) ?_
                          intro m226 em226
                          have hIm226 : zInv m226 := by rw [em226]; exact iu_74 hIm225 (by omega)
                          have hFm226 : zFr W_161 m0 m226 := by rw [em226]; exact hFm225.any rfl
                          have km226_69_5 : m226 69 5 = g0 := by rw [em226, zUp_ne (fun q => absurd q.1 (by decide))]; exact km225_69_5
                          have km226_69_7 : m226 69 7 = p10 := by rw [em226, zUp_ne (fun q => absurd q.1 (by decide))]; exact km225_69_7
                          have km226_69_9 : m226 69 9 = p11 := by rw [em226, zUp_ne (fun q => absurd q.1 (by decide))]; exact km225_69_9
                          have km226_69_11 : m226 69 11 = p12 := by rw [em226, zUp_ne (fun q => absurd q.1 (by decide))]; exact km225_69_11
                          have km226_69_6 : m226 69 6 = (f44 + 1) := by rw [em226, zUp_ne (fun q => absurd q.1 (by decide))]; exact km225_69_6
                          have fm226_70 : m226 70 = F70 := by rw [em226, zUp_fn (by decide)]; exact fm225_70
                          have fm226_73 : m226 73 = f13 := by rw [em226, zUp_fn (by decide)]; exact fm225_73
                          have fm226_74 : m226 74 = zPt f14 ((p12).toNat) 1000 := by rw [em226]; exact (zUp_ff (m := m225)).trans (congrArg (fun q => zPt q ((p12).toNat) 1000) fm225_74)
                          have fm226_75 : m226 75 = F75 := by rw [em226, zUp_fn (by decide)]; exact fm225_75
                          clear em226
                          have z227 := zcp_b f14 (p12).toNat (p12 + 1).toNat (1000) (by omega) (by omega)
                          refine zw_7 zr_161_214 rfl ?_
                          refine zw_43 zr_161_215 rfl ?_
                          refine zw_46i zr_161_216 km226_69_11 rfl rfl rfl ?_
                          refine zw_push zr_161_219 ?_
                          refine zw_16 zr_161_220 (by omega) ?_
                          refine zw_47 (c := 69) zr_161_221 rfl ⟨rfl, by decide, rfl⟩ ?_
                          intro m228 em228
                          have hIm228 : zInv m228 := by rw [em228]; exact hIm226.bd (r := 69) (k := 11) (lo := 0) (hi := 128) rfl (by omega) (by decide) (by decide) (by decide)
                          have hFm228 : zFr W_161 m0 m228 := by rw [em228]; exact hFm226.up rfl
                          have km228_69_5 : m228 69 5 = g0 := by rw [em228, zUp_ne (by decide)]; exact km226_69_5
                          have km228_69_7 : m228 69 7 = p10 := by rw [em228, zUp_ne (by decide)]; exact km226_69_7
                          have km228_69_9 : m228 69 9 = p11 := by rw [em228, zUp_ne (by decide)]; exact km226_69_9
                          have km228_69_6 : m228 69 6 = (f44 + 1) := by rw [em228, zUp_ne (by decide)]; exact km226_69_6
                          have km228_69_11 : m228 69 11 = (p12 + 1) := by rw [em228]; exact zUp_eq _ _ _ _
                          have fm228_70 : m228 70 = F70 := by rw [em228, zUp_fn (by decide)]; exact fm226_70
                          have fm228_73 : m228 73 = f13 := by rw [em228, zUp_fn (by decide)]; exact fm226_73
                          have fm228_74 : m228 74 = zPt f14 ((p12).toNat) 1000 := by rw [em228, zUp_fn (by decide)]; exact fm226_74
                          have fm228_75 : m228 75 = F75 := by rw [em228, zUp_fn (by decide)]; exact fm226_75
                          clear em228
                          refine zw_42 zr_161_224 ?_
                          refine zw_42 zr_161_485 ?_
                          exact zw_less (L := [(2, 69), (0, (i5 + 1)), (0, i6), (0, i7), (9, 0)]) ⟨Or.inr rfl, Or.inr rfl, Or.inr rfl, Or.inr rfl, Or.inl rfl, trivial⟩ (ihlp26_15 ((i5 + 1)) (i6) (i7) ((f44 + 1)) (p10) (p11) ((p12 + 1)) (f13) (zPt f14 ((p12).toNat) 1000) m228 hIm228 hFm228  km228_69_5 km228_69_6 km228_69_7 km228_69_9 km228_69_11 fm228_70 fm228_73 fm228_74 fm228_75 (by omega) (by omega) (by omega) (by omega) (by omega) (by omega) (by omega) (by omega) (by omega) (by omega) (by omega) (by omega) (by omega) (by omega) (by omega) (by omega) (by omega) (by omega) (by first | exact zRdg_b hv4lp26_15 po2_r43 rfl (by omega) | (exfalso; omega)) (by omega))
                    · intro h230
                      have z231 : f44 ≤ 49 := by omega
                      refine zw_7 zr_161_128 rfl ?_
                      refine zw_43 zr_161_129 rfl ?_
                      refine zw_46i zr_161_130 ef44 rfl rfl rfl ?_
                      refine zw_push zr_161_133 ?_
                      refine zw_16 zr_161_134 (by omega) ?_
                      refine zw_47 (c := 69) zr_161_135 rfl ⟨rfl, by decide, rfl⟩ ?_
                      intro m232 em232
                      have hIm232 : zInv m232 := by rw [em232]; exact hIm42.bd (r := 69) (k := 6) (lo := 0) (hi := 50) rfl (by omega) (by decide) (by decide) (by decide)
                      have hFm232 : zFr W_161 m0 m232 := by rw [em232]; exact hFm42.up rfl
                      have km232_69_5 : m232 69 5 = g0 := by rw [em232, zUp_ne (by decide)]; exact km42_69_5
                      have km232_69_7 : m232 69 7 = p10 := by rw [em232, zUp_ne (by decide)]; exact km42_69_7
                      have km232_69_9 : m232 69 9 = p11 := by rw [em232, zUp_ne (by decide)]; exact km42_69_9
                      have km232_69_11 : m232 69 11 = p12 := by rw [em232, zUp_ne (by decide)]; exact km42_69_11
                      have km232_69_6 : m232 69 6 = (f44 + 1) := by rw [em232]; exact zUp_eq _ _ _ _
                      have fm232_70 : m232 70 = F70 := by rw [em232, zUp_fn (by decide)]; exact fm42_70
                      have fm232_73 : m232 73 = f13 := by rw [em232, zUp_fn (by decide)]; exact fm42_73
                      have fm232_74 : m232 74 = f14 := by rw [em232, zUp_fn (by decide)]; exact fm42_74
                      have fm232_75 : m232 75 = F75 := by rw [em232, zUp_fn (by decide)]; exact fm42_75
                      clear em232
                      refine zw_7 zr_161_138 rfl ?_
                      refine zw_46r (s := 74) zr_161_139 rfl rfl rfl rfl ?_
                      refine zw_7 zr_161_142 rfl ?_
                      refine zw_46i zr_161_143 km232_69_11 rfl rfl rfl ?_
                      refine zw_4 zr_161_146 rfl ?_
                      refine zw_push zr_161_148 ?_
                      refine zw_41_4 zr_161_150 ?_ ?_
                      · intro h233
                        refine zw_push zr_161_159 ?_
                        refine zw_49 (c := 74) (len := 128) zr_161_162 rfl rfl (by omega) (by omega) ?_
                        intro m234 em234
                        have hIm234 : zInv m234 := by rw [em234]; exact iu_74 hIm232 (by omega)
                        have hFm234 : zFr W_161 m0 m234 := by rw [em234]; exact hFm232.any rfl
                        have km234_69_5 : m234 69 5 = g0 := by rw [em234, zUp_ne (fun q => absurd q.1 (by decide))]; exact km232_69_5
                        have km234_69_7 : m234 69 7 = p10 := by rw [em234, zUp_ne (fun q => absurd q.1 (by decide))]; exact km232_69_7
                        have km234_69_9 : m234 69 9 = p11 := by rw [em234, zUp_ne (fun q => absurd q.1 (by decide))]; exact km232_69_9
                        have km234_69_11 : m234 69 11 = p12 := by rw [em234, zUp_ne (fun q => absurd q.1 (by decide))]; exact km232_69_11
                        have km234_69_6 : m234 69 6 = (f44 + 1) := by rw [em234, zUp_ne (fun q => absurd q.1 (by decide))]; exact km232_69_6
                        have fm234_70 : m234 70 = F70 := by rw [em234, zUp_fn (by decide)]; exact fm232_70
                        have fm234_73 : m234 73 = f13 := by rw [em234, zUp_fn (by decide)]; exact fm232_73
                        have fm234_74 : m234 74 = zPt f14 ((p12).toNat) 1002 := by rw [em234]; exact (zUp_ff (m := m232)).trans (congrArg (fun q => zPt q ((p12).toNat) 1002) fm232_74)
                        have fm234_75 : m234 75 = F75 := by rw [em234, zUp_fn (by decide)]; exact fm232_75
                        clear em234
                        have z235 := zcp_u f14 (p12).toNat (p12 + 1).toNat (1002) (by omega) (by omega)
                        refine zw_7 zr_161_163 rfl ?_
                        refine zw_43 zr_161_164 rfl ?_
                        refine zw_46i zr_161_165 km234_69_11 rfl rfl rfl ?_
                        refine zw_push zr_161_168 ?_
                        refine zw_16 zr_161_169 (by omega) ?_
                        refine zw_47 (c := 69) zr_161_170 rfl ⟨rfl, by decide, rfl⟩ ?_
                        intro m236 em236
                        have hIm236 : zInv m236 := by rw [em236]; exact hIm234.bd (r := 69) (k := 11) (lo := 0) (hi := 128) rfl (by omega) (by decide) (by decide) (by decide)
                        have hFm236 : zFr W_161 m0 m236 := by rw [em236]; exact hFm234.up rfl
                        have km236_69_5 : m236 69 5 = g0 := by rw [em236, zUp_ne (by decide)]; exact km234_69_5
                        have km236_69_7 : m236 69 7 = p10 := by rw [em236, zUp_ne (by decide)]; exact km234_69_7
                        have km236_69_9 : m236 69 9 = p11 := by rw [em236, zUp_ne (by decide)]; exact km234_69_9
                        have km236_69_6 : m236 69 6 = (f44 + 1) := by rw [em236, zUp_ne (by decide)]; exact km234_69_6
                        have km236_69_11 : m236 69 11 = (p12 + 1) := by rw [em236]; exact zUp_eq _ _ _ _
                        have fm236_70 : m236 70 = F70 := by rw [em236, zUp_fn (by decide)]; exact fm234_70
                        have fm236_73 : m236 73 = f13 := by rw [em236, zUp_fn (by decide)]; exact fm234_73
                        have fm236_74 : m236 74 = zPt f14 ((p12).toNat) 1002 := by rw [em236, zUp_fn (by decide)]; exact fm234_74
                        have fm236_75 : m236 75 = F75 := by rw [em236, zUp_fn (by decide)]; exact fm234_75
                        clear em236
                        refine zw_42 zr_161_173 ?_
                        refine zw_42 zr_161_485 ?_
                        exact zw_less (L := [(2, 69), (0, i5), (0, i6), (0, i7), (9, 0)]) ⟨Or.inr rfl, Or.inr rfl, Or.inr rfl, Or.inr rfl, Or.inl rfl, trivial⟩ (ihlp26_15 (i5) (i6) (i7) ((f44 + 1)) (p10) (p11) ((p12 + 1)) (f13) (zPt f14 ((p12).toNat) 1002) m236 hIm236 hFm236  km236_69_5 km236_69_6 km236_69_7 km236_69_9 km236_69_11 fm236_70 fm236_73 fm236_74 fm236_75 (by omega) (by omega) (by omega) (by omega) (by omega) (by omega) (by omega) (by omega) (by omega) (by omega) (by omega) (by omega) (by omega) (by omega) (by omega) (by omega) (by omega) (by omega) (by first | exact zRdg_u hv4lp26_15 po2_r43 rfl (by omega) | (exfalso; omega)) (by omega))
                      · intro h238; omega
                · intro h239
                  have z240 : f44 ≤ 49 := by omega
                  refine zw_7 zr_161_85 rfl ?_
                  refine zw_43 zr_161_86 rfl ?_
                  refine zw_46i zr_161_87 ef44 rfl rfl rfl ?_
                  refine zw_push zr_161_90 ?_
                  refine zw_16 zr_161_91 (by omega) ?_
                  refine zw_47 (c := 69) zr_161_92 rfl ⟨rfl, by decide, rfl⟩ ?_
                  intro m241 em241
                  have hIm241 : zInv m241 := by rw [em241]; exact hIm42.bd (r := 69) (k := 6) (lo := 0) (hi := 50) rfl (by omega) (by decide) (by decide) (by decide)
                  have hFm241 : zFr W_161 m0 m241 := by rw [em241]; exact hFm42.up rfl
                  have km241_69_5 : m241 69 5 = g0 := by rw [em241, zUp_ne (by decide)]; exact km42_69_5
                  have km241_69_7 : m241 69 7 = p10 := by rw [em241, zUp_ne (by decide)]; exact km42_69_7
                  have km241_69_9 : m241 69 9 = p11 := by rw [em241, zUp_ne (by decide)]; exact km42_69_9
                  have km241_69_11 : m241 69 11 = p12 := by rw [em241, zUp_ne (by decide)]; exact km42_69_11
                  have km241_69_6 : m241 69 6 = (f44 + 1) := by rw [em241]; exact zUp_eq _ _ _ _
                  have fm241_70 : m241 70 = F70 := by rw [em241, zUp_fn (by decide)]; exact fm42_70
                  have fm241_73 : m241 73 = f13 := by rw [em241, zUp_fn (by decide)]; exact fm42_73
                  have fm241_74 : m241 74 = f14 := by rw [em241, zUp_fn (by decide)]; exact fm42_74
                  have fm241_75 : m241 75 = F75 := by rw [em241, zUp_fn (by decide)]; exact fm42_75
                  clear em241
                  refine zw_7 zr_161_95 rfl ?_
                  refine zw_7 zr_161_96 rfl ?_
                  refine zw_46r (s := 75) zr_161_97 rfl rfl rfl rfl ?_
                  refine zw_4 zr_161_100 rfl ?_
                  refine zw_C zr_161_102 (Or.inr rfl) zm_159 rfl rfl ⟨Nat.le_of_ble_eq_true rfl, Nat.le_of_ble_eq_true rfl, Nat.le_of_ble_eq_true rfl, rfl, by decide⟩ (by omega) (th_159 (d := d - 1) (by omega) hIm241 (a0 := r43)      (by omega) ) ?_
                  rintro _ _ ⟨r242, rfl, hr242a, hr242b, rfl, po0_r242, po1_r242⟩
                  have hrr242 : r199 = r242 := po1_r199.trans po1_r242.symm
                  clear po0_r242 po1_r242
                  subst hrr242
                  show zW E (d) 161 105 [(2, 69), (0, i5), (0, i6), (0, i7), (0, r43)] [(0, r199), (2, 75), (2, 69)] m241 Q
                  refine zw_50 (c := 75) (len := 6) zr_161_105 rfl rfl (by omega) (by omega) ?_
                  intro x243 ex243
                  have bx243 := hIm241.rl (c := 75) (len := 6) (k := (r199).toNat) rfl (by omega)
                  rw [← ex243] at bx243
                  have qx243 : x243 = F75 (r199).toNat := by rw [← fm241_75]; exact ex243
                  clear ex243
                  refine zw_C zr_161_106 (Or.inl rfl) zm_158 rfl rfl ⟨Nat.le_of_ble_eq_true rfl, Nat.le_of_ble_eq_true rfl, Nat.le_of_ble_eq_true rfl, rfl, by decide⟩ (by omega) (th_158 (d := d - 1) (by omega) hIm241 (a0 := x243) (g0 := p12) (g1 := p11)  (F73 := f13) (F74 := f14) km241_69_11 km241_69_9 fm241_73 fm241_74 (by omega) (by omega)) ?_
                  rintro _ m244 ⟨rfl, hIm244, gm244, po0_m244, po1_m244, po2_m244, po3_m244, po4_m244, po5_m244⟩
                  have hFm244 : zFr W_161 m0 m244 := hFm241.trans gm244 rfl
                  have km244_69_5 : m244 69 5 = g0 := (gm244 69 5 rfl).trans km241_69_5
                  have km244_69_7 : m244 69 7 = p10 := (gm244 69 7 rfl).trans km241_69_7
                  have km244_69_6 : m244 69 6 = (f44 + 1) := (gm244 69 6 rfl).trans km241_69_6
                  have fm244_70 : m244 70 = F70 := (funext fun k => gm244 70 k rfl).trans fm241_70
                  obtain ⟨f245, fm244_73⟩ : ∃ f, m244 73 = f := ⟨_, rfl⟩
                  try rw [fm244_73] at po4_m244
                  have fm244_74 : m244 74 = f14 := (funext fun k => gm244 74 k rfl).trans fm241_74
                  have fm244_75 : m244 75 = F75 := (funext fun k => gm244 75 k rfl).trans fm241_75
                  obtain ⟨f246, ef246⟩ : ∃ v, m244 69 11 = v := ⟨_, rfl⟩
                  have bf246 := ib_69_11 hIm244
                  rw [ef246] at bf246
                  rw [ef246] at po0_m244
                  rw [ef246] at po1_m244
                  rw [ef246] at po2_m244
                  rw [ef246] at po3_m244
                  show zW E (d) 161 109 [(2, 69), (0, i5), (0, i6), (0, i7), (0, r43)] [] m244 Q
                  have z247 := cB_nn f14 (f246).toNat
                  have hSs := po3_m244
                  have hSg := po4_m244
                  refine zw_push zr_161_109 ?_
                  refine zw_9 (L' := [(2, 69), (0, i5), (0, 0), (0, i7), (0, r43)]) zr_161_110 (Nat.le_of_ble_eq_true rfl) rfl ?_
                  refine zw_42 zr_161_111 ?_
                  refine zw_42 zr_161_485 ?_
                  exact zw_less (L := [(2, 69), (0, i5), (0, 0), (0, i7), (9, 0)]) ⟨Or.inr rfl, Or.inr rfl, Or.inr rfl, Or.inr rfl, Or.inl rfl, trivial⟩ (ihlp26_15 (i5) (0) (i7) ((f44 + 1)) (p10) ((p11 + 1)) (f246) (f245) (f14) m244 hIm244 hFm244  km244_69_5 km244_69_6 km244_69_7 po5_m244 ef246 fm244_70 fm244_73 fm244_74 fm244_75 (by omega) (by omega) (by omega) (by omega) (by omega) (by omega) (by omega) (by omega) (by omega) (by omega) (by omega) (by omega) (by omega) (by omega) (by omega) (by omega) (by omega) (by omega) (by first | exact zRdg_n hv4lp26_15 po2_r43 po1_r199 qx243 hSs hSg (by omega) | (exfalso; omega)) (by omega))
              · intro h249; omega
            · intro h250
              refine zw_5 zr_140_6 rfl ?_
              refine zw_6 zr_140_7 rfl ?_
              refine zw_39_2 zr_140_9 zr_140_10 ?_ ?_
              · intro h251
                refine zw_push zr_140_17 ?_
                refine zw_R zr_140_18 (by decide) zm_140 (v := (0, 0)) (zRetB (by omega)) ?_
                rw [← hQ1]
                show zW E (d) 161 60 [(2, 69), (0, i5), (0, i6), (0, i7), (0, r43)] [(0, 0)] m42 Q
                refine zw_40_1 zr_161_60 ?_ ?_
                · intro h252
                  refine zw_4 zr_161_76 rfl ?_
                  refine zw_C zr_161_78 (Or.inr rfl) zm_159 rfl rfl ⟨Nat.le_of_ble_eq_true rfl, Nat.le_of_ble_eq_true rfl, Nat.le_of_ble_eq_true rfl, rfl, by decide⟩ (by omega) (th_159 (d := d - 1) (by omega) hIm42 (a0 := r43)      (by omega) ) ?_
                  rintro _ _ ⟨r253, rfl, hr253a, hr253b, rfl, po0_r253, po1_r253⟩
                  show zW E (d) 161 81 [(2, 69), (0, i5), (0, i6), (0, i7), (0, r43)] [(0, r253)] m42 Q
                  refine zw_push zr_161_81 ?_
                  refine zw_41_1 zr_161_82 ?_ ?_
                  · intro h254
                    refine zw_4 zr_161_114 rfl ?_
                    refine zw_push zr_161_116 ?_
                    refine zw_41_1 zr_161_118 ?_ ?_
                    · intro h255; omega
                    · intro h256
                      refine zw_4 zr_161_121 rfl ?_
                      refine zw_push zr_161_123 ?_
                      refine zw_41_4 zr_161_125 ?_ ?_
                      · intro h257
                        refine zw_4 zr_161_176 rfl ?_
                        refine zw_push zr_161_178 ?_
                        refine zw_41_4 zr_161_180 ?_ ?_
                        · intro h258
                          refine zw_7 zr_161_227 rfl ?_
                          refine zw_push zr_161_228 ?_
                          refine zw_7 zr_161_230 rfl ?_
                          refine zw_46i zr_161_231 ef44 rfl rfl rfl ?_
                          refine zw_18 zr_161_234 (by omega) ?_
                          refine zw_4 zr_161_235 rfl ?_
                          refine zw_push zr_161_237 ?_
                          refine zw_41_4 zr_161_239 ?_ ?_
                          · intro h259
                            refine zw_push zr_161_246 ?_
                            refine zw_16 zr_161_247 (by omega) ?_
                            refine zw_47 (c := 69) zr_161_248 rfl ⟨rfl, by decide, rfl⟩ ?_
                            intro m260 em260
                            have hIm260 : zInv m260 := by rw [em260]; exact hIm42.any (by omega) rfl (by decide) (by decide)
                            have hFm260 : zFr W_161 m0 m260 := by rw [em260]; exact hFm42.up rfl
                            have km260_69_5 : m260 69 5 = g0 := by rw [em260, zUp_ne (by decide)]; exact km42_69_5
                            have km260_69_9 : m260 69 9 = p11 := by rw [em260, zUp_ne (by decide)]; exact km42_69_9
                            have km260_69_11 : m260 69 11 = p12 := by rw [em260, zUp_ne (by decide)]; exact km42_69_11
                            have km260_69_6 : m260 69 6 = f44 := by rw [em260, zUp_ne (by decide)]; exact ef44
                            have km260_69_7 : m260 69 7 = ((10 * f44) + 1) := by rw [em260]; exact zUp_eq _ _ _ _
                            have fm260_70 : m260 70 = F70 := by rw [em260, zUp_fn (by decide)]; exact fm42_70
                            have fm260_73 : m260 73 = f13 := by rw [em260, zUp_fn (by decide)]; exact fm42_73
                            have fm260_74 : m260 74 = f14 := by rw [em260, zUp_fn (by decide)]; exact fm42_74
                            have fm260_75 : m260 75 = F75 := by rw [em260, zUp_fn (by decide)]; exact fm42_75
                            clear em260
                            refine zw_42 zr_161_251 ?_
                            refine zw_42 zr_161_485 ?_
                            exact zw_less (L := [(2, 69), (0, i5), (0, i6), (0, i7), (9, 0)]) ⟨Or.inr rfl, Or.inr rfl, Or.inr rfl, Or.inr rfl, Or.inl rfl, trivial⟩ (ihlp26_15 (i5) (i6) (i7) (f44) (((10 * f44) + 1)) (p11) (p12) (f13) (f14) m260 hIm260 hFm260  km260_69_5 km260_69_6 km260_69_7 km260_69_9 km260_69_11 fm260_70 fm260_73 fm260_74 fm260_75 (by omega) (by omega) (by omega) (by omega) (by omega) (by omega) (by omega) (by omega) (by omega) (by omega) (by omega) (by omega) (by omega) (by omega) (by omega) (by omega) (by omega) (by omega) (by first | exact zRdg_f hv4lp26_15 po2_r43 (by omega) (by omega) | (exfalso; omega)) (by omega))
                          · intro h262; omega
                        · intro h263; omega
                      · intro h264; omega
                  · intro h265
                    have z266 : f44 ≤ 49 := by omega
                    refine zw_7 zr_161_85 rfl ?_
                    refine zw_43 zr_161_86 rfl ?_
                    refine zw_46i zr_161_87 ef44 rfl rfl rfl ?_
                    refine zw_push zr_161_90 ?_
                    refine zw_16 zr_161_91 (by omega) ?_
                    refine zw_47 (c := 69) zr_161_92 rfl ⟨rfl, by decide, rfl⟩ ?_
                    intro m267 em267
                    have hIm267 : zInv m267 := by rw [em267]; exact hIm42.bd (r := 69) (k := 6) (lo := 0) (hi := 50) rfl (by omega) (by decide) (by decide) (by decide)
                    have hFm267 : zFr W_161 m0 m267 := by rw [em267]; exact hFm42.up rfl
                    have km267_69_5 : m267 69 5 = g0 := by rw [em267, zUp_ne (by decide)]; exact km42_69_5
                    have km267_69_7 : m267 69 7 = p10 := by rw [em267, zUp_ne (by decide)]; exact km42_69_7
                    have km267_69_9 : m267 69 9 = p11 := by rw [em267, zUp_ne (by decide)]; exact km42_69_9
                    have km267_69_11 : m267 69 11 = p12 := by rw [em267, zUp_ne (by decide)]; exact km42_69_11
                    have km267_69_6 : m267 69 6 = (f44 + 1) := by rw [em267]; exact zUp_eq _ _ _ _
                    have fm267_70 : m267 70 = F70 := by rw [em267, zUp_fn (by decide)]; exact fm42_70
                    have fm267_73 : m267 73 = f13 := by rw [em267, zUp_fn (by decide)]; exact fm42_73
                    have fm267_74 : m267 74 = f14 := by rw [em267, zUp_fn (by decide)]; exact fm42_74
                    have fm267_75 : m267 75 = F75 := by rw [em267, zUp_fn (by decide)]; exact fm42_75
                    clear em267
                    refine zw_7 zr_161_95 rfl ?_
                    refine zw_7 zr_161_96 rfl ?_
                    refine zw_46r (s := 75) zr_161_97 rfl rfl rfl rfl ?_
                    refine zw_4 zr_161_100 rfl ?_
                    refine zw_C zr_161_102 (Or.inr rfl) zm_159 rfl rfl ⟨Nat.le_of_ble_eq_true rfl, Nat.le_of_ble_eq_true rfl, Nat.le_of_ble_eq_true rfl, rfl, by decide⟩ (by omega) (th_159 (d := d - 1) (by omega) hIm267 (a0 := r43)      (by omega) ) ?_
                    rintro _ _ ⟨r268, rfl, hr268a, hr268b, rfl, po0_r268, po1_r268⟩
                    have hrr268 : r253 = r268 := po1_r253.trans po1_r268.symm
                    clear po0_r268 po1_r268
                    subst hrr268
                    show zW E (d) 161 105 [(2, 69), (0, i5), (0, i6), (0, i7), (0, r43)] [(0, r253), (2, 75), (2, 69)] m267 Q
                    refine zw_50 (c := 75) (len := 6) zr_161_105 rfl rfl (by omega) (by omega) ?_
                    intro x269 ex269
                    have bx269 := hIm267.rl (c := 75) (len := 6) (k := (r253).toNat) rfl (by omega)
                    rw [← ex269] at bx269
                    have qx269 : x269 = F75 (r253).toNat := by rw [← fm267_75]; exact ex269
                    clear ex269
                    refine zw_C zr_161_106 (Or.inl rfl) zm_158 rfl rfl ⟨Nat.le_of_ble_eq_true rfl, Nat.le_of_ble_eq_true rfl, Nat.le_of_ble_eq_true rfl, rfl, by decide⟩ (by omega) (th_158 (d := d - 1) (by omega) hIm267 (a0 := x269) (g0 := p12) (g1 := p11)  (F73 := f13) (F74 := f14) km267_69_11 km267_69_9 fm267_73 fm267_74 (by omega) (by omega)) ?_
                    rintro _ m270 ⟨rfl, hIm270, gm270, po0_m270, po1_m270, po2_m270, po3_m270, po4_m270, po5_m270⟩
                    have hFm270 : zFr W_161 m0 m270 := hFm267.trans gm270 rfl
                    have km270_69_5 : m270 69 5 = g0 := (gm270 69 5 rfl).trans km267_69_5
                    have km270_69_7 : m270 69 7 = p10 := (gm270 69 7 rfl).trans km267_69_7
                    have km270_69_6 : m270 69 6 = (f44 + 1) := (gm270 69 6 rfl).trans km267_69_6
                    have fm270_70 : m270 70 = F70 := (funext fun k => gm270 70 k rfl).trans fm267_70
                    obtain ⟨f271, fm270_73⟩ : ∃ f, m270 73 = f := ⟨_, rfl⟩
                    try rw [fm270_73] at po4_m270
                    have fm270_74 : m270 74 = f14 := (funext fun k => gm270 74 k rfl).trans fm267_74
                    have fm270_75 : m270 75 = F75 := (funext fun k => gm270 75 k rfl).trans fm267_75
                    obtain ⟨f272, ef272⟩ : ∃ v, m270 69 11 = v := ⟨_, rfl⟩
                    have bf272 := ib_69_11 hIm270
                    rw [ef272] at bf272
                    rw [ef272] at po0_m270
                    rw [ef272] at po1_m270
                    rw [ef272] at po2_m270
                    rw [ef272] at po3_m270
                    show zW E (d) 161 109 [(2, 69), (0, i5), (0, i6), (0, i7), (0, r43)] [] m270 Q
                    have z273 := cB_nn f14 (f272).toNat
                    have hSs := po3_m270
                    have hSg := po4_m270
                    refine zw_push zr_161_109 ?_
                    refine zw_9 (L' := [(2, 69), (0, i5), (0, 0), (0, i7), (0, r43)]) zr_161_110 (Nat.le_of_ble_eq_true rfl) rfl ?_
                    refine zw_42 zr_161_111 ?_
                    refine zw_42 zr_161_485 ?_
                    exact zw_less (L := [(2, 69), (0, i5), (0, 0), (0, i7), (9, 0)]) ⟨Or.inr rfl, Or.inr rfl, Or.inr rfl, Or.inr rfl, Or.inl rfl, trivial⟩ (ihlp26_15 (i5) (0) (i7) ((f44 + 1)) (p10) ((p11 + 1)) (f272) (f271) (f14) m270 hIm270 hFm270  km270_69_5 km270_69_6 km270_69_7 po5_m270 ef272 fm270_70 fm270_73 fm270_74 fm270_75 (by omega) (by omega) (by omega) (by omega) (by omega) (by omega) (by omega) (by omega) (by omega) (by omega) (by omega) (by omega) (by omega) (by omega) (by omega) (by omega) (by omega) (by omega) (by first | exact zRdg_n hv4lp26_15 po2_r43 po1_r253 qx269 hSs hSg (by omega) | (exfalso; omega)) (by omega))
                · intro h275; omega
              · intro h276
                refine zw_push zr_140_13 ?_
                refine zw_42 zr_140_14 ?_
                refine zw_R zr_140_18 (by decide) zm_140 (v := (0, 1)) (zRetB (by omega)) ?_
                rw [← hQ1]
                show zW E (d) 161 60 [(2, 69), (0, i5), (0, i6), (0, i7), (0, r43)] [(0, 1)] m42 Q
                refine zw_40_1 zr_161_60 ?_ ?_
                · intro h277; omega
                · intro h278
                  refine zw_7 zr_161_63 rfl ?_
                  refine zw_7 zr_161_64 rfl ?_
                  refine zw_C zr_161_65 (Or.inl rfl) zm_160 rfl rfl ⟨Nat.le_of_ble_eq_true rfl, Nat.le_of_ble_eq_true rfl, Nat.le_of_ble_eq_true rfl, rfl, by decide⟩ (by omega) (th_160 (d := d - 1) (by omega) hIm42  (g0 := f44) (g1 := p10) (g2 := g0)  (F70 := F70) ef44 km42_69_7 km42_69_5 fm42_70  ) ?_
                  rintro _ m279 ⟨r280, rfl, hr280a, hr280b, hIm279, gm279, po0_r280, po1_r280, po2_r280⟩
                  have hFm279 : zFr W_161 m0 m279 := hFm42.trans gm279 rfl
                  have km279_69_5 : m279 69 5 = g0 := (gm279 69 5 rfl).trans km42_69_5
                  have km279_69_9 : m279 69 9 = p11 := (gm279 69 9 rfl).trans km42_69_9
                  have km279_69_11 : m279 69 11 = p12 := (gm279 69 11 rfl).trans km42_69_11
                  have fm279_70 : m279 70 = F70 := (funext fun k => gm279 70 k rfl).trans fm42_70
                  have fm279_73 : m279 73 = f13 := (funext fun k => gm279 73 k rfl).trans fm42_73
                  have fm279_74 : m279 74 = f14 := (funext fun k => gm279 74 k rfl).trans fm42_74
                  have fm279_75 : m279 75 = F75 := (funext fun k => gm279 75 k rfl).trans fm42_75
                  obtain ⟨f281, ef281⟩ : ∃ v, m279 69 6 = v := ⟨_, rfl⟩
                  have bf281 := ib_69_6 hIm279
                  rw [ef281] at bf281
                  rw [ef281] at po0_r280
                  rw [ef281] at po2_r280
                  obtain ⟨f282, ef282⟩ : ∃ v, m279 69 7 = v := ⟨_, rfl⟩
                  have bf282 := hIm279.fi (c := 69) (k := 7) rfl
                  rw [ef282] at bf282
                  rw [ef282] at po1_r280
                  rw [ef282] at po2_r280
                  show zW E (d) 161 68 [(2, 69), (0, i5), (0, i6), (0, i7), (0, r43)] [(1, r280), (2, 69)] m279 Q
                  refine zw_C zr_161_68 (Or.inl rfl) zm_158 rfl rfl ⟨Nat.le_of_ble_eq_true rfl, Nat.le_of_ble_eq_true rfl, Nat.le_of_ble_eq_true rfl, rfl, by decide⟩ (by omega) (th_158 (d := d - 1) (by omega) hIm279 (a0 := r280) (g0 := p12) (g1 := p11)  (F73 := f13) (F74 := f14) km279_69_11 km279_69_9 fm279_73 fm279_74 (by omega) (by omega)) ?_
                  rintro _ m283 ⟨rfl, hIm283, gm283, po0_m283, po1_m283, po2_m283, po3_m283, po4_m283, po5_m283⟩
                  have hFm283 : zFr W_161 m0 m283 := hFm279.trans gm283 rfl
                  have km283_69_5 : m283 69 5 = g0 := (gm283 69 5 rfl).trans km279_69_5
                  have km283_69_6 : m283 69 6 = f281 := (gm283 69 6 rfl).trans ef281
                  have km283_69_7 : m283 69 7 = f282 := (gm283 69 7 rfl).trans ef282
                  have fm283_70 : m283 70 = F70 := (funext fun k => gm283 70 k rfl).trans fm279_70
                  obtain ⟨f284, fm283_73⟩ : ∃ f, m283 73 = f := ⟨_, rfl⟩
                  try rw [fm283_73] at po4_m283
                  have fm283_74 : m283 74 = f14 := (funext fun k => gm283 74 k rfl).trans fm279_74
                  have fm283_75 : m283 75 = F75 := (funext fun k => gm283 75 k rfl).trans fm279_75
                  obtain ⟨f285, ef285⟩ : ∃ v, m283 69 11 = v := ⟨_, rfl⟩
                  have bf285 := ib_69_11 hIm283
                  rw [ef285] at bf285
                  rw [ef285] at po0_m283
                  rw [ef285] at po1_m283
                  rw [ef285] at po2_m283
                  rw [ef285] at po3_m283
                  show zW E (d) 161 71 [(2, 69), (0, i5), (0, i6), (0, i7), (0, r43)] [] m283 Q
                  have z286 := cB_nn f14 (f285).toNat
                  have hSs := po3_m283
                  have hSg := po4_m283
                  refine zw_push zr_161_71 ?_
                  refine zw_9 (L' := [(2, 69), (0, i5), (0, 0), (0, i7), (0, r43)]) zr_161_72 (Nat.le_of_ble_eq_true rfl) rfl ?_
                  refine zw_42 zr_161_73 ?_
                  refine zw_42 zr_161_485 ?_
                  exact zw_less (L := [(2, 69), (0, i5), (0, 0), (0, i7), (9, 0)]) ⟨Or.inr rfl, Or.inr rfl, Or.inr rfl, Or.inr rfl, Or.inl rfl, trivial⟩ (ihlp26_15 (i5) (0) (i7) (f281) (f282) ((p11 + 1)) (f285) (f284) (f14) m283 hIm283 hFm283  km283_69_5 km283_69_6 km283_69_7 po5_m283 ef285 fm283_70 fm283_73 fm283_74 fm283_75 (by omega) (by omega) (by omega) (by omega) (by omega) (by omega) (by omega) (by omega) (by omega) (by omega) (by omega) (by omega) (by omega) (by omega) (by omega) (by omega) (by omega) (by omega) (by first | exact zRdg_d hv4lp26_15 po2_r43 po2_r280 hSs hSg (by omega) | (exfalso; omega)) (by omega))
  exact lp26_15 _ (0) (1) (1) (0) ((-1)) (0) (0) (F73) (F74) m4 hIm4 hFm4  km4_69_5 km4_69_6 km4_69_7 km4_69_9 km4_69_11 fm4_70 fm4_73 fm4_74 fm4_75 (by omega) (by omega) (by omega) (by omega) (by omega) (by omega) (by omega) (by omega) (by omega) (by omega) (by omega) (by omega) (by omega) (by omega) (by omega) (by have := cB_nn F74 (Int.toNat 0); omega) (by omega) (by have := cB_nn F74 (Int.toNat 0); omega) (zRdg_0 (by omega)) (Nat.lt_succ_self _)
