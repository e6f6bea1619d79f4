abbrev W_4_54 : List (Nat × Nat) := [(54, 1000)]
set_option maxHeartbeats 8000000 in
theorem th_4_54 {E : zE} {d : Nat} {m0 : zM} {a0 : Int} {F54 : Nat → Int} (hd : 1 ≤ d) (hI0 : zInv m0) (hG54 : m0 54 = F54) (ha0 : 0 ≤ a0 ∧ a0 ≤ 0) : zC E d 4 [(2, 54), (0, a0)] m0 (fun v m' => v = (9, 0) ∧ zInv m' ∧ zFr W_4_54 m0 m' ∧ (zFil (m' 54) 10 a0)) := by
  have hF0 : zFr W_4_54 m0 m0 := zFr.rfl
  generalize hQ : (fun (v : zV) (m' : zM) => v = (9, 0) ∧ zInv m' ∧ zFr W_4_54 m0 m' ∧ (zFil (m' 54) 10 a0)) = Q
  show zW E d 4 0 [(2, 54), (0, a0), (9, 0), (9, 0)] [] m0 Q
  refine zw_push zr_4_0 ?_
  refine zw_9 (L' := [(2, 54), (0, a0), (0, 0), (9, 0)]) zr_4_1 (Nat.le_of_ble_eq_true rfl) rfl ?_
  refine zw_7 zr_4_2 rfl ?_
  refine zw_101 (c := 54) (len := 10) zr_4_3 rfl rfl (by decide) ?_
  refine zw_9 (L' := [(2, 54), (0, a0), (0, 0), (0, 10)]) zr_4_4 (Nat.le_of_ble_eq_true rfl) rfl ?_
  have lp5_4 : ∀ (nlp5_4 : Nat) (i1 : Int) (f3 : Nat → Int) (m2 : zM), zInv m2 → zFr W_4_54 m0 m2 → m2 54 = f3 → 0 ≤ i1 → i1 ≤ 10 → (zFil f3 i1 a0) → (10 - i1).toNat < nlp5_4 → zW E (d) 4 5 [(2, 54), (0, a0), (0, i1), (0, 10)] [] m2 Q := by
    intro nlp5_4
    induction nlp5_4 with
    | zero =>
      intros
      exact absurd (by assumption : _ < 0) (Nat.not_lt_zero _)
    | succ nlp5_4 ihlp5_4 =>
      intro i1 f3 m2 hIm2 hFm2 fm2_54 li1 ui1 hv0lp5_4 hmlp5_4
      refine zw_3 zr_4_5 rfl ?_
      refine zw_3 zr_4_6 rfl ?_
      refine zw_41_3 zr_4_7 ?_ ?_
      · intro h6
        refine zw_R zr_4_20 (by decide) zm_4 (v := (9, 0)) rfl ?_
        rw [← hQ]; exact ⟨rfl, hIm2, hFm2, by rw [fm2_54]; exact zFil_le hv0lp5_4 (by omega)⟩
      · intro h8
        refine zw_7 zr_4_10 rfl ?_
        refine zw_3 zr_4_11 rfl ?_
        refine zw_3 zr_4_12 rfl ?_
        refine zw_49 (c := 54) (len := 10) zr_4_13 rfl rfl (by omega) (by omega) ?_
        intro m9 em9
        have hIm9 : zInv m9 := by rw [em9]; exact iu_54 hIm2 (by omega)
        have hFm9 : zFr W_4_54 m0 m9 := by rw [em9]; exact hFm2.any rfl
        have fm9_54 : m9 54 = zPt f3 ((i1).toNat) a0 := by rw [em9]; exact (zUp_ff (m := m2)).trans (congrArg (fun q => zPt q ((i1).toNat) a0) fm2_54)
        clear em9
        refine zw_15 (c := 1) (L' := [(2, 54), (0, a0), (0, (i1 + 1)), (0, 10)]) zr_4_14 rfl (by decide) (by omega) rfl ?_
        refine zw_42 zr_4_17 ?_
        exact zw_less (L := [(2, 54), (0, a0), (0, (i1 + 1)), (0, 10)]) ⟨Or.inr rfl, Or.inr rfl, Or.inr rfl, Or.inr rfl, trivial⟩ (ihlp5_4 ((i1 + 1)) (zPt f3 ((i1).toNat) a0) m9 hIm9 hFm9   fm9_54 (by omega) (by omega) (zFil_put hv0lp5_4 (by omega)) (by omega))
  exact lp5_4 _ (0) (F54) m0 hI0 hF0  hG54 (by omega) (by omega) (zFil_0) (Nat.lt_succ_self _)

abbrev W_31 : List (Nat × Nat) := [(52, 0), (52, 1), (52, 2)]
set_option maxHeartbeats 8000000 in
theorem th_31 {E : zE} {d : Nat} {m0 : zM} {a0 : Int} {a1 : Int} {a2 : Int} (hd : 1 ≤ d) (hI0 : zInv m0) (ha0 : 0 ≤ a0 ∧ a0 ≤ 9) (ha1 : (-2147483648) ≤ a1 ∧ a1 ≤ 2147483647) (ha2 : 0 ≤ a2 ∧ a2 ≤ 63) : zC E d 31 [(2, 52), (0, a0), (1, a1), (1, a2)] m0 (fun v m' => v = (9, 0) ∧ zInv m' ∧ zFr W_31 m0 m') := by
  have hF0 : zFr W_31 m0 m0 := zFr.rfl
  generalize hQ : (fun (v : zV) (m' : zM) => v = (9, 0) ∧ zInv m' ∧ zFr W_31 m0 m') = Q
  show zW E d 31 0 [(2, 52), (0, a0), (1, a1), (9, 0), (1, a2), (9, 0), (9, 0), (9, 0)] [] m0 Q
  refine zw_7 zr_31_0 rfl ?_
  obtain ⟨f1, ef1⟩ : ∃ v, m0 52 0 = v := ⟨_, rfl⟩
  have bf1 := ib_52_0 hI0
  rw [ef1] at bf1
  refine zw_46i zr_31_1 ef1 rfl rfl rfl ?_
  refine zw_push zr_31_4 ?_
  refine zw_41_4 zr_31_5 ?_ ?_
  · intro h2
    refine zw_5 zr_31_12 rfl ?_
    refine zw_7 zr_31_13 rfl ?_
    obtain ⟨f3, ef3⟩ : ∃ v, m0 52 2 = v := ⟨_, rfl⟩
    have bf3 := hI0.fl (c := 52) (k := 2) rfl
    rw [ef3] at bf3
    refine zw_46l zr_31_14 ef3 rfl rfl rfl ?_
    refine zw_29h zr_31_17 ?_
    intro x4 hx4a hx4b
    refine zw_7 zr_31_18 rfl ?_
    obtain ⟨f5, ef5⟩ : ∃ v, m0 52 1 = v := ⟨_, rfl⟩
    have bf5 := hI0.fl (c := 52) (k := 1) rfl
    rw [ef5] at bf5
    refine zw_46l zr_31_19 ef5 rfl rfl rfl ?_
    refine zw_6 zr_31_22 rfl ?_
    refine zw_29h zr_31_24 ?_
    intro x6 hx6a hx6b
    refine zw_28h zr_31_25 ?_
    intro x7 hx7a hx7b
    refine zw_14 (L' := [(2, 52), (0, a0), (1, a1), (9, 0), (1, a2), (9, 0), (1, x7), (9, 0)]) zr_31_26 (Nat.le_of_ble_eq_true rfl) rfl ?_
    refine zw_6 zr_31_28 rfl ?_
    refine zw_push zr_31_30 ?_
    refine zw_39_2 zr_31_31 zr_31_32 ?_ ?_
    · intro h8
      refine zw_7 zr_31_50 rfl ?_
      refine zw_3 zr_31_51 rfl ?_
      refine zw_47 (c := 52) zr_31_52 rfl ⟨rfl, by decide, rfl⟩ ?_
      intro m9 em9
      have hIm9 : zInv m9 := by rw [em9]; exact hI0.bd (r := 52) (k := 0) (lo := (-1)) (hi := 9) rfl (by omega) (by decide) (by decide) (by decide)
      have hFm9 : zFr W_31 m0 m9 := by rw [em9]; exact hF0.up rfl
      have km9_52_2 : m9 52 2 = f3 := by rw [em9, zUp_ne (by omega)]; exact ef3
      have km9_52_1 : m9 52 1 = f5 := by rw [em9, zUp_ne (by omega)]; exact ef5
      have km9_52_0 : m9 52 0 = a0 := by rw [em9]; exact zUp_eq _ _ _ _
      clear em9
      refine zw_7 zr_31_55 rfl ?_
      refine zw_5 zr_31_56 rfl ?_
      refine zw_47 (c := 52) zr_31_57 rfl ⟨rfl, by decide, rfl⟩ ?_
      intro m10 em10
      have hIm10 : zInv m10 := by rw [em10]; exact hIm9.anyl (by omega) (by decide) rfl (by decide) (by decide)
      have hFm10 : zFr W_31 m0 m10 := by rw [em10]; exact hFm9.up rfl
      have km10_52_2 : m10 52 2 = f3 := by rw [em10, zUp_ne (by omega)]; exact km9_52_2
      have km10_52_0 : m10 52 0 = a0 := by rw [em10, zUp_ne (by omega)]; exact km9_52_0
      have km10_52_1 : m10 52 1 = a1 := by rw [em10]; exact zUp_eq _ _ _ _
      clear em10
      refine zw_7 zr_31_60 rfl ?_
      refine zw_6 zr_31_61 rfl ?_
      refine zw_47 (c := 52) zr_31_63 rfl ⟨rfl, by decide, rfl⟩ ?_
      intro m11 em11
      have hIm11 : zInv m11 := by rw [em11]; exact hIm10.anyl (by omega) (by decide) rfl (by decide) (by decide)
      have hFm11 : zFr W_31 m0 m11 := by rw [em11]; exact hFm10.up rfl
      have km11_52_0 : m11 52 0 = a0 := by rw [em11, zUp_ne (by omega)]; exact km10_52_0
      have km11_52_1 : m11 52 1 = a1 := by rw [em11, zUp_ne (by omega)]; exact km10_52_1
      have km11_52_2 : m11 52 2 = a2 := by rw [em11]; exact zUp_eq _ _ _ _
      clear em11
      refine zw_R zr_31_66 (by decide) zm_31 (v := (9, 0)) rfl ?_
      rw [← hQ]; exact ⟨rfl, hIm11, hFm11⟩
    · intro h12
      refine zw_6 zr_31_35 rfl ?_
      refine zw_push zr_31_37 ?_
      refine zw_39_4 zr_31_38 zr_31_39 ?_ ?_
      · intro h13
        refine zw_R zr_31_66 (by decide) zm_31 (v := (9, 0)) rfl ?_
        rw [← hQ]; exact ⟨rfl, hI0, hF0⟩
      · intro h14
        refine zw_3 zr_31_42 rfl ?_
        refine zw_7 zr_31_43 rfl ?_
        refine zw_46i zr_31_44 ef1 rfl rfl rfl ?_
        refine zw_41_3 zr_31_47 ?_ ?_
        · intro h15
          refine zw_R zr_31_66 (by decide) zm_31 (v := (9, 0)) rfl ?_
          rw [← hQ]; exact ⟨rfl, hI0, hF0⟩
        · intro h16
          refine zw_7 zr_31_50 rfl ?_
          refine zw_3 zr_31_51 rfl ?_
          refine zw_47 (c := 52) zr_31_52 rfl ⟨rfl, by decide, rfl⟩ ?_
          intro m17 em17
          have hIm17 : zInv m17 := by rw [em17]; exact hI0.bd (r := 52) (k := 0) (lo := (-1)) (hi := 9) rfl (by omega) (by decide) (by decide) (by decide)
          have hFm17 : zFr W_31 m0 m17 := by rw [em17]; exact hF0.up rfl
          have km17_52_2 : m17 52 2 = f3 := by rw [em17, zUp_ne (by omega)]; exact ef3
          have km17_52_1 : m17 52 1 = f5 := by rw [em17, zUp_ne (by omega)]; exact ef5
          have km17_52_0 : m17 52 0 = a0 := by rw [em17]; exact zUp_eq _ _ _ _
          clear em17
          refine zw_7 zr_31_55 rfl ?_
          refine zw_5 zr_31_56 rfl ?_
          refine zw_47 (c := 52) zr_31_57 rfl ⟨rfl, by decide, rfl⟩ ?_
          intro m18 em18
          have hIm18 : zInv m18 := by rw [em18]; exact hIm17.anyl (by omega) (by decide) rfl (by decide) (by decide)
          have hFm18 : zFr W_31 m0 m18 := by rw [em18]; exact hFm17.up rfl
          have km18_52_2 : m18 52 2 = f3 := by rw [em18, zUp_ne (by omega)]; exact km17_52_2
          have km18_52_0 : m18 52 0 = a0 := by rw [em18, zUp_ne (by omega)]; exact km17_52_0
          have km18_52_1 : m18 52 1 = a1 := by rw [em18]; exact zUp_eq _ _ _ _
          clear em18
          refine zw_7 zr_31_60 rfl ?_
          refine zw_6 zr_31_61 rfl ?_
          refine zw_47 (c := 52) zr_31_63 rfl ⟨rfl, by decide, rfl⟩ ?_
          intro m19 em19
          have hIm19 : zInv m19 := by rw [em19]; exact hIm18.anyl (by omega) (by decide) rfl (by decide) (by decide)
          have hFm19 : zFr W_31 m0 m19 := by rw [em19]; exact hFm18.up rfl
          have km19_52_0 : m19 52 0 = a0 := by rw [em19, zUp_ne (by omega)]; exact km18_52_0
          have km19_52_1 : m19 52 1 = a1 := by rw [em19, zUp_ne (by omega)]; exact km18_52_1
          have km19_52_2 : m19 52 2 = a2 := by rw [em19]; exact zUp_eq _ _ _ _
          clear em19
          refine zw_R zr_31_66 (by decide) zm_31 (v := (9, 0)) rfl ?_
          rw [← hQ]; exact ⟨rfl, hIm19, hFm19⟩
  · intro h20
    refine zw_push zr_31_8 ?_
    refine zw_42 zr_31_9 ?_
    refine zw_14 (L' := [(2, 52), (0, a0), (1, a1), (9, 0), (1, a2), (9, 0), (1, 1), (9, 0)]) zr_31_26 (Nat.le_of_ble_eq_true rfl) rfl ?_
    refine zw_6 zr_31_28 rfl ?_
    refine zw_push zr_31_30 ?_
    refine zw_39_2 zr_31_31 zr_31_32 ?_ ?_
    · intro h21
      refine zw_7 zr_31_50 rfl ?_
      refine zw_3 zr_31_51 rfl ?_
      refine zw_47 (c := 52) zr_31_52 rfl ⟨rfl, by decide, rfl⟩ ?_
      intro m22 em22
      have hIm22 : zInv m22 := by rw [em22]; exact hI0.bd (r := 52) (k := 0) (lo := (-1)) (hi := 9) rfl (by omega) (by decide) (by decide) (by decide)
      have hFm22 : zFr W_31 m0 m22 := by rw [em22]; exact hF0.up rfl
      have km22_52_0 : m22 52 0 = a0 := by rw [em22]; exact zUp_eq _ _ _ _
      clear em22
      refine zw_7 zr_31_55 rfl ?_
      refine zw_5 zr_31_56 rfl ?_
      refine zw_47 (c := 52) zr_31_57 rfl ⟨rfl, by decide, rfl⟩ ?_
      intro m23 em23
      have hIm23 : zInv m23 := by rw [em23]; exact hIm22.anyl (by omega) (by decide) rfl (by decide) (by decide)
      have hFm23 : zFr W_31 m0 m23 := by rw [em23]; exact hFm22.up rfl
      have km23_52_0 : m23 52 0 = a0 := by rw [em23, zUp_ne (by omega)]; exact km22_52_0
      have km23_52_1 : m23 52 1 = a1 := by rw [em23]; exact zUp_eq _ _ _ _
      clear em23
      refine zw_7 zr_31_60 rfl ?_
      refine zw_6 zr_31_61 rfl ?_
      refine zw_47 (c := 52) zr_31_63 rfl ⟨rfl, by decide, rfl⟩ ?_
      intro m24 em24
      have hIm24 : zInv m24 := by rw [em24]; exact hIm23.anyl (by omega) (by decide) rfl (by decide) (by decide)
      have hFm24 : zFr W_31 m0 m24 := by rw [em24]; exact hFm23.up rfl
      have km24_52_0 : m24 52 0 = a0 := by rw [em24, zUp_ne (by omega)]; exact km23_52_0
      have km24_52_1 : m24 52 1 = a1 := by rw [em24, zUp_ne (by omega)]; exact km23_52_1
      have km24_52_2 : m24 52 2 = a2 := by rw [em24]; exact zUp_eq _ _ _ _
      clear em24
      refine zw_R zr_31_66 (by decide) zm_31 (v := (9, 0)) rfl ?_
      rw [← hQ]; exact ⟨rfl, hIm24, hFm24⟩
    · intro h25; omega

abbrev W_32 : List (Nat × Nat) := [(52, 0), (52, 1), (52, 2), (53, 1000), (54, 1000)]
set_option maxHeartbeats 8000000 in
theorem th_32 {E : zE} {d : Nat} {m0 : zM} {a0 : Int} {a1 : Int} {gY : Int} {F54 : Nat → Int} (hd : 2 ≤ d) (hI0 : zInv m0) (hG54 : m0 54 = F54) (ha0 : 0 ≤ a0 ∧ a0 ≤ 9) (ha1 : (-2147483648) ≤ a1 ∧ a1 ≤ 2147483647) (hp0 : zY F54 a0 gY) (hp1 : 0 ≤ gY ∧ gY ≤ 59) : zC E d 32 [(2, 52), (0, a0), (0, a1)] m0 (fun v m' => v = (9, 0) ∧ zInv m' ∧ zFr W_32 m0 m' ∧ (zY (m' 54) (a0 + 1) gY)) := by
  have hF0 : zFr W_32 m0 m0 := zFr.rfl
  generalize hQ : (fun (v : zV) (m' : zM) => v = (9, 0) ∧ zInv m' ∧ zFr W_32 m0 m' ∧ (zY (m' 54) (a0 + 1) gY)) = Q
  show zW E d 32 0 [(2, 52), (0, a0), (0, a1), (9, 0), (9, 0)] [] m0 Q
  refine zw_7 zr_32_0 rfl ?_
  refine zw_46r (s := 53) zr_32_1 rfl rfl rfl rfl ?_
  refine zw_3 zr_32_4 rfl ?_
  refine zw_push zr_32_5 ?_
  refine zw_18 zr_32_7 (by omega) ?_
  refine zw_7 zr_32_8 rfl ?_
  refine zw_46r (s := 54) zr_32_9 rfl rfl rfl rfl ?_
  refine zw_3 zr_32_12 rfl ?_
  refine zw_48 (c := 54) (len := 10) zr_32_13 rfl rfl (by omega) (by omega) ?_
  intro x1 ex1
  have bx1 := ib_54 hI0 (k := (a0).toNat) (by omega)
  rw [← ex1] at bx1
  have qx1 : x1 = F54 (a0).toNat := by rw [← hG54]; exact ex1
  clear ex1
  have z2 : x1 ≤ gY := by rw [qx1]; exact zY_at hp0 (by omega) (by omega)
  refine zw_push zr_32_14 ?_
  refine zw_20 zr_32_16 (by omega) (by omega) (by omega) (by omega) ?_
  refine zw_16 zr_32_17 (by omega) ?_
  refine zw_7 zr_32_18 rfl ?_
  refine zw_46r (s := 43) zr_32_19 rfl rfl rfl rfl ?_
  refine zw_46r (s := 44) zr_32_22 rfl rfl rfl rfl ?_
  refine zw_3 zr_32_25 rfl ?_
  refine zw_48 (c := 44) (len := 10) zr_32_26 rfl rfl (by omega) (by omega) ?_
  intro x3 ex3
  have bx3 := hI0.ra (c := 44) (len := 10) (k := (a0).toNat) rfl (by omega)
  rw [← ex3] at bx3
  clear ex3
  refine zw_49 (c := 53) (len := 90) zr_32_27 rfl rfl (by omega) (by omega) ?_
  intro m4 em4
  have hIm4 : zInv m4 := by rw [em4]; exact hI0.any (by omega) rfl (by decide) (by decide)
  have hFm4 : zFr W_32 m0 m4 := by rw [em4]; exact hF0.any rfl
  have fm4_54 : m4 54 = F54 := by rw [em4, zUp_fn (by decide)]; exact hG54
  clear em4
  refine zw_7 zr_32_28 rfl ?_
  refine zw_46r (s := 54) zr_32_29 rfl rfl rfl rfl ?_
  refine zw_3 zr_32_32 rfl ?_
  refine zw_45 zr_32_33 ⟨rfl, rfl⟩ ?_
  refine zw_48 (c := 54) (len := 10) zr_32_34 rfl rfl (by omega) (by omega) ?_
  intro x5 ex5
  have bx5 := ib_54 hIm4 (k := (a0).toNat) (by omega)
  rw [← ex5] at bx5
  have qx5 : x5 = F54 (a0).toNat := by rw [← fm4_54]; exact ex5
  clear ex5
  have z6 : x5 ≤ gY := by rw [qx5]; exact zY_at hp0 (by omega) (by omega)
  refine zw_push zr_32_35 ?_
  refine zw_16 zr_32_36 (by omega) ?_
  refine zw_49 (c := 54) (len := 10) zr_32_37 rfl rfl (by omega) (by omega) ?_
  intro m7 em7
  have hIm7 : zInv m7 := by rw [em7]; exact iu_54 hIm4 (by omega)
  have hFm7 : zFr W_32 m0 m7 := by rw [em7]; exact hFm4.any rfl
  have fm7_54 : m7 54 = zPt F54 ((a0).toNat) ((x5 + 1)) := by rw [em7]; exact (zUp_ff (m := m4)).trans (congrArg (fun q => zPt q ((a0).toNat) ((x5 + 1))) fm4_54)
  clear em7
  refine zw_7 zr_32_38 rfl ?_
  refine zw_46r (s := 54) zr_32_39 rfl rfl rfl rfl ?_
  refine zw_3 zr_32_42 rfl ?_
  refine zw_48 (c := 54) (len := 10) zr_32_43 rfl rfl (by omega) (by omega) ?_
  intro x8 ex8
  have bx8 := ib_54 hIm7 (k := (a0).toNat) (by omega)
  rw [← ex8] at bx8
  have qx8 : x8 = (zPt F54 ((a0).toNat) ((x5 + 1))) (a0).toNat := by rw [← fm7_54]; exact ex8
  refine zw_3 zr_32_44 rfl ?_
  refine zw_41_3 zr_32_45 ?_ ?_
  · intro h9
    refine zw_7 zr_32_49 rfl ?_
    refine zw_46r (s := 43) zr_32_50 rfl rfl rfl rfl ?_
    refine zw_46r (s := 44) zr_32_53 rfl rfl rfl rfl ?_
    refine zw_3 zr_32_56 rfl ?_
    refine zw_48 (c := 44) (len := 10) zr_32_57 rfl rfl (by omega) (by omega) ?_
    intro x10 ex10
    have bx10 := hIm7.ra (c := 44) (len := 10) (k := (a0).toNat) rfl (by omega)
    rw [← ex10] at bx10
    clear ex10
    refine zw_9 (L' := [(2, 52), (0, a0), (0, a1), (0, x10), (9, 0)]) zr_32_58 (Nat.le_of_ble_eq_true rfl) rfl ?_
    refine zw_push zr_32_59 ?_
    refine zw_10 (L' := [(2, 52), (0, a0), (0, a1), (0, x10), (0, 2)]) zr_32_60 (Nat.le_of_ble_eq_true rfl) rfl ?_
    have lp62_14 : ∀ (nlp62_14 : Nat) (i11 i12 : Int) (m13 : zM), zInv m13 → zFr W_32 m0 m13 → m13 54 = zPt F54 ((a0).toNat) ((x5 + 1)) → (-2147483648) ≤ i11 → i11 ≤ 2147483647 → 2 ≤ i12 → i12 ≤ 61 → (61 - i12).toNat < nlp62_14 → zW E (d) 32 62 [(2, 52), (0, a0), (0, a1), (0, i11), (0, i12)] [] m13 Q := by
      intro nlp62_14
      induction nlp62_14 with
      | zero =>
        intros
        exact absurd (by assumption : _ < 0) (Nat.not_lt_zero _)
      | succ nlp62_14 ihlp62_14 =>
        intro i11 i12 m13 hIm13 hFm13 fm13_54 li11 ui11 li12 ui12 hmlp62_14
        refine zw_4 zr_32_62 rfl ?_
        refine zw_3 zr_32_64 rfl ?_
        refine zw_41_2 zr_32_65 ?_ ?_
        · intro h16
          refine zw_7 zr_32_101 rfl ?_
          refine zw_3 zr_32_102 rfl ?_
          refine zw_3 zr_32_103 rfl ?_
          refine zw_36 zr_32_104 ?_
          refine zw_push zr_32_105 ?_
          refine zw_C zr_32_106 (Or.inl rfl) zm_31 rfl rfl ⟨Nat.le_of_ble_eq_true rfl, Nat.le_of_ble_eq_true rfl, Nat.le_of_ble_eq_true rfl, rfl, by decide⟩ (by omega) (th_31 (d := d - 1) (by omega) hIm13 (a0 := a0) (a1 := i11) (a2 := 1)      (by omega) (by omega) (by omega) ) ?_
          rintro _ m17 ⟨rfl, hIm17, gm17⟩
          have hFm17 : zFr W_32 m0 m17 := hFm13.trans gm17 rfl
          have fm17_54 : m17 54 = zPt F54 ((a0).toNat) ((x5 + 1)) := (funext fun k => gm17 54 k rfl).trans fm13_54
          show zW E (d) 32 109 [(2, 52), (0, a0), (0, a1), (0, i11), (0, i12)] [] m17 Q
          refine zw_R zr_32_109 (by decide) zm_32 (v := (9, 0)) rfl ?_
          rw [← hQ]; exact ⟨rfl, hIm17, hFm17, by rw [fm17_54]; exact zY_put hp0 (by omega) (by omega)⟩
        · intro h19
          refine zw_3 zr_32_68 rfl ?_
          refine zw_7 zr_32_69 rfl ?_
          refine zw_46r (s := 53) zr_32_70 rfl rfl rfl rfl ?_
          refine zw_3 zr_32_73 rfl ?_
          refine zw_push zr_32_74 ?_
          refine zw_18 zr_32_76 (by omega) ?_
          refine zw_7 zr_32_77 rfl ?_
          refine zw_46r (s := 54) zr_32_78 rfl rfl rfl rfl ?_
          refine zw_3 zr_32_81 rfl ?_
          refine zw_48 (c := 54) (len := 10) zr_32_82 rfl rfl (by omega) (by omega) ?_
          intro x20 ex20
          have bx20 := ib_54 hIm13 (k := (a0).toNat) (by omega)
          rw [← ex20] at bx20
          have qx20 : x20 = (zPt F54 ((a0).toNat) ((x5 + 1))) (a0).toNat := by rw [← fm13_54]; exact ex20
          clear ex20
          refine zw_4 zr_32_83 rfl ?_
          refine zw_17 zr_32_85 (by omega) ?_
          refine zw_push zr_32_86 ?_
          refine zw_20 zr_32_88 (by omega) (by omega) (by omega) (by omega) ?_
          refine zw_16 zr_32_89 (by omega) ?_
          refine zw_48 (c := 53) (len := 90) zr_32_90 rfl rfl (by omega) (by omega) ?_
          intro x21 ex21
          have bx21 := hIm13.ra (c := 53) (len := 90) (k := (((a0 * 9) + ((x20 - i12) % 9))).toNat) rfl (by omega)
          rw [← ex21] at bx21
          clear ex21
          refine zw_121 zr_32_91 (Nat.le_of_ble_eq_true rfl) (by omega) (by omega) (by omega) ?_
          intro x22 hx22a hx22b hx22c
          refine zw_9 (L' := [(2, 52), (0, a0), (0, a1), (0, x22), (0, i12)]) zr_32_94 (Nat.le_of_ble_eq_true rfl) rfl ?_
          refine zw_15 (c := 1) (L' := [(2, 52), (0, a0), (0, a1), (0, x22), (0, (i12 + 1))]) zr_32_95 rfl (by decide) (by omega) rfl ?_
          refine zw_42 zr_32_98 ?_
          exact zw_less (L := [(2, 52), (0, a0), (0, a1), (0, x22), (0, (i12 + 1))]) ⟨Or.inr rfl, Or.inr rfl, Or.inr rfl, Or.inr rfl, Or.inr rfl, trivial⟩ (ihlp62_14 (x22) ((i12 + 1)) m13 hIm13 hFm13   fm13_54 (by omega) (by omega) (by omega) (by omega)  (by omega))
    exact lp62_14 _ (x10) (2) m7 hIm7 hFm7  fm7_54 (by omega) (by omega) (by omega) (by omega)  (Nat.lt_succ_self _)
  · intro h23
    refine zw_R zr_32_48 (by decide) zm_32 (v := (9, 0)) rfl ?_
    rw [← hQ]; exact ⟨rfl, hIm7, hFm7, by rw [fm7_54]; exact zY_put hp0 (by omega) (by omega)⟩

abbrev W_33 : List (Nat × Nat) := [(52, 0), (52, 1), (52, 2), (53, 1000), (54, 1000)]
set_option maxHeartbeats 8000000 in
theorem th_33 {E : zE} {d : Nat} {m0 : zM} {a0 : Int} {a1 : Int} {a2 : Int} {gY : Int} {F54 : Nat → Int} (hd : 3 ≤ d) (hI0 : zInv m0) (hG54 : m0 54 = F54) (ha0 : (-2147483648) ≤ a0 ∧ a0 ≤ 2147483647) (ha1 : 0 ≤ a1 ∧ a1 ≤ 2) (ha2 : (-2147483648) ≤ a2 ∧ a2 ≤ 2147483647) (hp0 : zY F54 0 gY) (hp1 : 0 ≤ gY ∧ gY ≤ 59) : zC E d 33 [(2, 52), (0, a0), (0, a1), (0, a2)] m0 (fun v m' => v = (9, 0) ∧ zInv m' ∧ zFr W_33 m0 m' ∧ (zY (m' 54) 10 gY)) := by
  have hF0 : zFr W_33 m0 m0 := zFr.rfl
  generalize hQ : (fun (v : zV) (m' : zM) => v = (9, 0) ∧ zInv m' ∧ zFr W_33 m0 m' ∧ (zY (m' 54) 10 gY)) = Q
  show zW E d 33 0 [(2, 52), (0, a0), (0, a1), (0, a2), (9, 0), (9, 0), (9, 0)] [] m0 Q
  refine zw_3 zr_33_0 rfl ?_
  refine zw_C zr_33_1 (Or.inr rfl) zm_29 rfl rfl ⟨Nat.le_of_ble_eq_true rfl, Nat.le_of_ble_eq_true rfl, Nat.le_of_ble_eq_true rfl, rfl, by decide⟩ (by omega) (th_29 (d := d - 1) (by omega) hI0 (a0 := a0)      (by omega) ) ?_
  rintro _ _ ⟨r1, rfl, hr1a, hr1b, rfl⟩
  show zW E (d) 33 4 [(2, 52), (0, a0), (0, a1), (0, a2), (9, 0), (9, 0), (9, 0)] [(0, r1)] m0 Q
  refine zw_10 (L' := [(2, 52), (0, a0), (0, a1), (0, a2), (0, r1), (9, 0), (9, 0)]) zr_33_4 (Nat.le_of_ble_eq_true rfl) rfl ?_
  refine zw_7 zr_33_6 rfl ?_
  refine zw_46r (s := 43) zr_33_7 rfl rfl rfl rfl ?_
  refine zw_3 zr_33_10 rfl ?_
  refine zw_C zr_33_11 (Or.inl rfl) zm_30 rfl rfl ⟨Nat.le_of_ble_eq_true rfl, Nat.le_of_ble_eq_true rfl, Nat.le_of_ble_eq_true rfl, rfl, by decide⟩ (by omega) (th_30 (d := d - 1) (by omega) hI0 (a0 := a0)      (by omega) ) ?_
  rintro _ _ ⟨r2, rfl, hr2a, hr2b, rfl⟩
  show zW E (d) 33 14 [(2, 52), (0, a0), (0, a1), (0, a2), (0, r1), (9, 0), (9, 0)] [(0, r2)] m0 Q
  refine zw_10 (L' := [(2, 52), (0, a0), (0, a1), (0, a2), (0, r1), (0, r2), (9, 0)]) zr_33_14 (Nat.le_of_ble_eq_true rfl) rfl ?_
  refine zw_push zr_33_16 ?_
  refine zw_10 (L' := [(2, 52), (0, a0), (0, a1), (0, a2), (0, r1), (0, r2), (0, 0)]) zr_33_17 (Nat.le_of_ble_eq_true rfl) rfl ?_
  have lp19_6 : ∀ (nlp19_6 : Nat) (i3 : Int) (f5 : Nat → Int) (m4 : zM), zInv m4 → zFr W_33 m0 m4 → m4 54 = f5 → 0 ≤ i3 → i3 ≤ 10 → (zY f5 i3 gY) → (10 - i3).toNat < nlp19_6 → zW E (d) 33 19 [(2, 52), (0, a0), (0, a1), (0, a2), (0, r1), (0, r2), (0, i3)] [] m4 Q := by
    intro nlp19_6
    induction nlp19_6 with
    | zero =>
      intros
      exact absurd (by assumption : _ < 0) (Nat.not_lt_zero _)
    | succ nlp19_6 ihlp19_6 =>
      intro i3 f5 m4 hIm4 hFm4 fm4_54 li3 ui3 hv0lp19_6 hmlp19_6
      refine zw_4 zr_33_19 rfl ?_
      refine zw_7 zr_33_21 rfl ?_
      refine zw_46r (s := 1) zr_33_22 rfl rfl rfl rfl ?_
      obtain ⟨f8, ef8⟩ : ∃ v, m4 1 0 = v := ⟨_, rfl⟩
      have bf8 := ib_1_0 hIm4
      rw [ef8] at bf8
      refine zw_46i zr_33_25 ef8 rfl rfl rfl ?_
      refine zw_41_3 zr_33_28 ?_ ?_
      · intro h9
        refine zw_R zr_33_115 (by decide) zm_33 (v := (9, 0)) rfl ?_
        rw [← hQ]; exact ⟨rfl, hIm4, hFm4, by rw [fm4_54]; exact zY_mono hv0lp19_6 (by omega)⟩
      · intro h11
        refine zw_3 zr_33_31 rfl ?_
        refine zw_4 zr_33_32 rfl ?_
        refine zw_25h zr_33_34 ?_
        intro x12 hx12a hx12b
        refine zw_push zr_33_35 ?_
        refine zw_21m zr_33_36 (by omega) (by omega) ?_
        intro x13 hx13a hx13b
        refine zw_40_4 zr_33_37 ?_ ?_
        · intro h14
          refine zw_3 zr_33_43 rfl ?_
          refine zw_40_4 zr_33_44 ?_ ?_
          · intro h15
            refine zw_3 zr_33_68 rfl ?_
            refine zw_push zr_33_69 ?_
            refine zw_41_4 zr_33_70 ?_ ?_
            · intro h16
              refine zw_7 zr_33_83 rfl ?_
              refine zw_4 zr_33_84 rfl ?_
              refine zw_7 zr_33_86 rfl ?_
              refine zw_46r (s := 43) zr_33_87 rfl rfl rfl rfl ?_
              refine zw_46r (s := 44) zr_33_90 rfl rfl rfl rfl ?_
              refine zw_4 zr_33_93 rfl ?_
              refine zw_48 (c := 44) (len := 10) zr_33_95 rfl rfl (by omega) (by omega) ?_
              intro x17 ex17
              have bx17 := hIm4.ra (c := 44) (len := 10) (k := (i3).toNat) rfl (by omega)
              rw [← ex17] at bx17
              clear ex17
              refine zw_4 zr_33_96 rfl ?_
              refine zw_18h zr_33_98 ?_
              intro x18 hx18a hx18b
              refine zw_4 zr_33_99 rfl ?_
              refine zw_17h zr_33_101 ?_
              intro x19 hx19a hx19b
              refine zw_36 zr_33_102 ?_
              refine zw_4 zr_33_103 rfl ?_
              refine zw_36 zr_33_105 ?_
              refine zw_C zr_33_106 (Or.inl rfl) zm_31 rfl rfl ⟨Nat.le_of_ble_eq_true rfl, Nat.le_of_ble_eq_true rfl, Nat.le_of_ble_eq_true rfl, rfl, by decide⟩ (by omega) (th_31 (d := d - 1) (by omega) hIm4 (a0 := i3) (a1 := x19) (a2 := r1)      (by omega) (by omega) (by omega) ) ?_
              rintro _ m20 ⟨rfl, hIm20, gm20⟩
              have hFm20 : zFr W_33 m0 m20 := hFm4.trans gm20 rfl
              have km20_1_0 : m20 1 0 = f8 := (gm20 1 0 rfl).trans ef8
              have fm20_54 : m20 54 = f5 := (funext fun k => gm20 54 k rfl).trans fm4_54
              show zW E (d) 33 109 [(2, 52), (0, a0), (0, a1), (0, a2), (0, r1), (0, r2), (0, i3)] [] m20 Q
              refine zw_15 (c := 1) (L' := [(2, 52), (0, a0), (0, a1), (0, a2), (0, r1), (0, r2), (0, (i3 + 1))]) zr_33_109 rfl (by decide) (by omega) rfl ?_
              refine zw_42 zr_33_112 ?_
              exact zw_less (L := [(2, 52), (0, a0), (0, a1), (0, a2), (0, r1), (0, r2), (0, (i3 + 1))]) ⟨Or.inr rfl, Or.inr rfl, Or.inr rfl, Or.inr rfl, Or.inr rfl, Or.inr rfl, Or.inr rfl, trivial⟩ (ihlp19_6 ((i3 + 1)) (f5) m20 hIm20 hFm20   fm20_54 (by omega) (by omega) (by first | assumption | exact zY_mono hv0lp19_6 (by omega)) (by omega))
            · intro h22
              refine zw_7 zr_33_73 rfl ?_
              refine zw_4 zr_33_74 rfl ?_
              refine zw_3 zr_33_76 rfl ?_
              refine zw_C zr_33_77 (Or.inl rfl) zm_32 rfl rfl ⟨Nat.le_of_ble_eq_true rfl, Nat.le_of_ble_eq_true rfl, Nat.le_of_ble_eq_true rfl, rfl, by decide⟩ (by omega) (th_32 (d := d - 1) (by omega) hIm4 (a0 := i3) (a1 := a2)  (gY := gY) (F54 := f5)  fm4_54 (by omega) (by omega) (hv0lp19_6) (by omega)) ?_
              rintro _ m25 ⟨rfl, hIm25, gm25, po0_m25⟩
              have hFm25 : zFr W_33 m0 m25 := hFm4.trans gm25 rfl
              have km25_1_0 : m25 1 0 = f8 := (gm25 1 0 rfl).trans ef8
              obtain ⟨f26, fm25_54⟩ : ∃ f, m25 54 = f := ⟨_, rfl⟩
              try rw [fm25_54] at po0_m25
              show zW E (d) 33 80 [(2, 52), (0, a0), (0, a1), (0, a2), (0, r1), (0, r2), (0, i3)] [] m25 Q
              refine zw_42 zr_33_80 ?_
              refine zw_15 (c := 1) (L' := [(2, 52), (0, a0), (0, a1), (0, a2), (0, r1), (0, r2), (0, (i3 + 1))]) zr_33_109 rfl (by decide) (by omega) rfl ?_
              refine zw_42 zr_33_112 ?_
              exact zw_less (L := [(2, 52), (0, a0), (0, a1), (0, a2), (0, r1), (0, r2), (0, (i3 + 1))]) ⟨Or.inr rfl, Or.inr rfl, Or.inr rfl, Or.inr rfl, Or.inr rfl, Or.inr rfl, Or.inr rfl, trivial⟩ (ihlp19_6 ((i3 + 1)) (f26) m25 hIm25 hFm25   fm25_54 (by omega) (by omega) (by first | assumption | exact zY_mono hv0lp19_6 (by omega)) (by omega))
          · intro h28
            refine zw_7 zr_33_47 rfl ?_
            refine zw_4 zr_33_48 rfl ?_
            refine zw_7 zr_33_50 rfl ?_
            refine zw_46r (s := 43) zr_33_51 rfl rfl rfl rfl ?_
            refine zw_46r (s := 44) zr_33_54 rfl rfl rfl rfl ?_
            refine zw_4 zr_33_57 rfl ?_
            refine zw_48 (c := 44) (len := 10) zr_33_59 rfl rfl (by omega) (by omega) ?_
            intro x29 ex29
            have bx29 := hIm4.ra (c := 44) (len := 10) (k := (i3).toNat) rfl (by omega)
            rw [← ex29] at bx29
            clear ex29
            refine zw_36 zr_33_60 ?_
            refine zw_push zr_33_61 ?_
            refine zw_C zr_33_62 (Or.inl rfl) zm_31 rfl rfl ⟨Nat.le_of_ble_eq_true rfl, Nat.le_of_ble_eq_true rfl, Nat.le_of_ble_eq_true rfl, rfl, by decide⟩ (by omega) (th_31 (d := d - 1) (by omega) hIm4 (a0 := i3) (a1 := x29) (a2 := 1)      (by omega) (by omega) (by omega) ) ?_
            rintro _ m30 ⟨rfl, hIm30, gm30⟩
            have hFm30 : zFr W_33 m0 m30 := hFm4.trans gm30 rfl
            have km30_1_0 : m30 1 0 = f8 := (gm30 1 0 rfl).trans ef8
            have fm30_54 : m30 54 = f5 := (funext fun k => gm30 54 k rfl).trans fm4_54
            show zW E (d) 33 65 [(2, 52), (0, a0), (0, a1), (0, a2), (0, r1), (0, r2), (0, i3)] [] m30 Q
            refine zw_42 zr_33_65 ?_
            refine zw_15 (c := 1) (L' := [(2, 52), (0, a0), (0, a1), (0, a2), (0, r1), (0, r2), (0, (i3 + 1))]) zr_33_109 rfl (by decide) (by omega) rfl ?_
            refine zw_42 zr_33_112 ?_
            exact zw_less (L := [(2, 52), (0, a0), (0, a1), (0, a2), (0, r1), (0, r2), (0, (i3 + 1))]) ⟨Or.inr rfl, Or.inr rfl, Or.inr rfl, Or.inr rfl, Or.inr rfl, Or.inr rfl, Or.inr rfl, trivial⟩ (ihlp19_6 ((i3 + 1)) (f5) m30 hIm30 hFm30   fm30_54 (by omega) (by omega) (by first | assumption | exact zY_mono hv0lp19_6 (by omega)) (by omega))
        · intro h32
          refine zw_42 zr_33_40 ?_
          refine zw_15 (c := 1) (L' := [(2, 52), (0, a0), (0, a1), (0, a2), (0, r1), (0, r2), (0, (i3 + 1))]) zr_33_109 rfl (by decide) (by omega) rfl ?_
          refine zw_42 zr_33_112 ?_
          exact zw_less (L := [(2, 52), (0, a0), (0, a1), (0, a2), (0, r1), (0, r2), (0, (i3 + 1))]) ⟨Or.inr rfl, Or.inr rfl, Or.inr rfl, Or.inr rfl, Or.inr rfl, Or.inr rfl, Or.inr rfl, trivial⟩ (ihlp19_6 ((i3 + 1)) (f5) m4 hIm4 hFm4   fm4_54 (by omega) (by omega) (by first | assumption | exact zY_mono hv0lp19_6 (by omega)) (by omega))
  exact lp19_6 _ (0) (F54) m0 hI0 hF0  hG54 (by omega) (by omega) (hp0) (Nat.lt_succ_self _)

abbrev W_34 : List (Nat × Nat) := [(43, 5), (44, 1000), (45, 1), (45, 5), (45, 6), (45, 7), (45, 8), (45, 9), (46, 1000), (47, 1000), (48, 1000), (49, 1000), (50, 1000), (51, 1000), (52, 0), (52, 1), (52, 2), (53, 1000), (54, 1000)]
set_option maxHeartbeats 8000000 in
theorem th_34 {E : zE} {d : Nat} {m0 : zM} {a0 : Int} {a1 : Int} {a2 : Int} {F54 : Nat → Int} (hd : 95 ≤ d) (hI0 : zInv m0) (hG54 : m0 54 = F54) (ha0 : 0 ≤ a0 ∧ a0 ≤ 3) (ha1 : 0 ≤ a1 ∧ a1 ≤ 2) (ha2 : (-2147483648) ≤ a2 ∧ a2 ≤ 2147483647) : zC E d 34 [(2, 52), (0, a0), (0, a1), (0, a2)] m0 (fun v m' => v = (9, 0) ∧ zInv m' ∧ zFr W_34 m0 m') := by
  have hF0 : zFr W_34 m0 m0 := zFr.rfl
  generalize hQ : (fun (v : zV) (m' : zM) => v = (9, 0) ∧ zInv m' ∧ zFr W_34 m0 m') = Q
  show zW E d 34 0 [(2, 52), (0, a0), (0, a1), (0, a2), (9, 0), (9, 0)] [] m0 Q
  refine zw_7 zr_34_0 rfl ?_
  refine zw_push zr_34_1 ?_
  refine zw_47 (c := 52) zr_34_2 rfl ⟨rfl, by decide, rfl⟩ ?_
  intro m1 em1
  have hIm1 : zInv m1 := by rw [em1]; exact hI0.bd (r := 52) (k := 0) (lo := (-1)) (hi := 9) rfl (by omega) (by decide) (by decide) (by decide)
  have hFm1 : zFr W_34 m0 m1 := by rw [em1]; exact hF0.up rfl
  have km1_52_0 : m1 52 0 = (-1) := by rw [em1]; exact zUp_eq _ _ _ _
  have fm1_54 : m1 54 = F54 := by rw [em1, zUp_fn (by decide)]; exact hG54
  clear em1
  refine zw_7 zr_34_5 rfl ?_
  refine zw_46r (s := 54) zr_34_6 rfl rfl rfl rfl ?_
  refine zw_push zr_34_9 ?_
  refine zw_C zr_34_10 (Or.inr rfl) zm_4 rfl rfl ⟨Nat.le_of_ble_eq_true rfl, Nat.le_of_ble_eq_true rfl, Nat.le_of_ble_eq_true rfl, rfl, by decide⟩ (by omega) (th_4_54 (d := d - 1) (by omega) hIm1 (a0 := 0)   (F54 := F54)  fm1_54 (by omega) ) ?_
  rintro _ m2 ⟨rfl, hIm2, gm2, po0_m2⟩
  have hFm2 : zFr W_34 m0 m2 := hFm1.trans gm2 rfl
  have km2_52_0 : m2 52 0 = (-1) := (gm2 52 0 rfl).trans km1_52_0
  obtain ⟨f3, fm2_54⟩ : ∃ f, m2 54 = f := ⟨_, rfl⟩
  try rw [fm2_54] at po0_m2
  show zW E (d) 34 13 [(2, 52), (0, a0), (0, a1), (0, a2), (9, 0), (9, 0)] [] m2 Q
  refine zw_7 zr_34_13 rfl ?_
  refine zw_46r (s := 43) zr_34_14 rfl rfl rfl rfl ?_
  refine zw_3 zr_34_17 rfl ?_
  refine zw_C zr_34_18 (Or.inl rfl) zm_16 rfl rfl ⟨Nat.le_of_ble_eq_true rfl, Nat.le_of_ble_eq_true rfl, Nat.le_of_ble_eq_true rfl, rfl, by decide⟩ (by omega) (th_16 (d := d - 1) (by omega) hIm2 (a0 := a0)      (by omega) ) ?_
  rintro _ m4 ⟨rfl, hIm4, gm4⟩
  have hFm4 : zFr W_34 m0 m4 := hFm2.trans gm4 rfl
  have km4_52_0 : m4 52 0 = (-1) := (gm4 52 0 rfl).trans km2_52_0
  have fm4_54 : m4 54 = f3 := (funext fun k => gm4 54 k rfl).trans fm2_54
  show zW E (d) 34 21 [(2, 52), (0, a0), (0, a1), (0, a2), (9, 0), (9, 0)] [] m4 Q
  refine zw_push zr_34_21 ?_
  refine zw_10 (L' := [(2, 52), (0, a0), (0, a1), (0, a2), (0, 0), (9, 0)]) zr_34_22 (Nat.le_of_ble_eq_true rfl) rfl ?_
  refine zw_push zr_34_24 ?_
  refine zw_10 (L' := [(2, 52), (0, a0), (0, a1), (0, a2), (0, 0), (0, 0)]) zr_34_25 (Nat.le_of_ble_eq_true rfl) rfl ?_
  have lp27_9 : ∀ (nlp27_9 : Nat) (i5 i6 : Int) (f8 : Nat → Int) (m7 : zM), zInv m7 → zFr W_34 m0 m7 → m7 54 = f8 → (-2147483648) ≤ i5 → i5 ≤ 2147483647 → 0 ≤ i6 → i6 ≤ 60 → (zY f8 0 i6) → (60 - i6).toNat < nlp27_9 → zW E (d) 34 27 [(2, 52), (0, a0), (0, a1), (0, a2), (0, i5), (0, i6)] [] m7 Q := by
    intro nlp27_9
    induction nlp27_9 with
    | zero =>
      intros
      exact absurd (by assumption : _ < 0) (Nat.not_lt_zero _)
    | succ nlp27_9 ihlp27_9 =>
      intro i5 i6 f8 m7 hIm7 hFm7 fm7_54 li5 ui5 li6 ui6 hv0lp27_9 hmlp27_9
      refine zw_4 zr_34_27 rfl ?_
      refine zw_7 zr_34_29 rfl ?_
      refine zw_46r (s := 1) zr_34_30 rfl rfl rfl rfl ?_
      obtain ⟨f11, ef11⟩ : ∃ v, m7 1 1 = v := ⟨_, rfl⟩
      have bf11 := ib_1_1 hIm7
      rw [ef11] at bf11
      refine zw_46i zr_34_33 ef11 rfl rfl rfl ?_
      refine zw_41_3 zr_34_36 ?_ ?_
      · intro h12
        refine zw_R zr_34_91 (by decide) zm_34 (v := (9, 0)) rfl ?_
        rw [← hQ]; exact ⟨rfl, hIm7, hFm7⟩
      · intro h13
        refine zw_7 zr_34_39 rfl ?_
        refine zw_46r (s := 43) zr_34_40 rfl rfl rfl rfl ?_
        refine zw_4 zr_34_43 rfl ?_
        refine zw_C zr_34_45 (Or.inl rfl) zm_26 rfl rfl ⟨Nat.le_of_ble_eq_true rfl, Nat.le_of_ble_eq_true rfl, Nat.le_of_ble_eq_true rfl, rfl, by decide⟩ (by omega) (th_26 (d := d - 1) (by omega) hIm7 (a0 := i6)      (by omega) ) ?_
        rintro _ m14 ⟨rfl, hIm14, gm14⟩
        have hFm14 : zFr W_34 m0 m14 := hFm7.trans gm14 rfl
        have km14_1_1 : m14 1 1 = f11 := (gm14 1 1 rfl).trans ef11
        have fm14_54 : m14 54 = f8 := (funext fun k => gm14 54 k rfl).trans fm7_54
        show zW E (d) 34 48 [(2, 52), (0, a0), (0, a1), (0, a2), (0, i5), (0, i6)] [] m14 Q
        refine zw_4 zr_34_48 rfl ?_
        refine zw_7 zr_34_50 rfl ?_
        refine zw_46r (s := 1) zr_34_51 rfl rfl rfl rfl ?_
        refine zw_4 zr_34_54 rfl ?_
        refine zw_C zr_34_56 (Or.inl rfl) zm_27 rfl rfl ⟨Nat.le_of_ble_eq_true rfl, Nat.le_of_ble_eq_true rfl, Nat.le_of_ble_eq_true rfl, rfl, by decide⟩ (by omega) (P := (fun v m' => zW E (d) 34 59 [(2, 52), (0, a0), (0, a1), (0, a2), (0, i5), (0, i6)] (if v.1 = 9 then [(0, i5)] else v :: [(0, i5)]) m' Q)) ?_ (fun _ _ h => h)
        generalize hQ1 : (fun v m' => zW E (d) 34 59 [(2, 52), (0, a0), (0, a1), (0, a2), (0, i5), (0, i6)] (if v.1 = 9 then [(0, i5)] else v :: [(0, i5)]) m' Q) = Q1
        show zW E (d - 1) 27 0 [(2, 1), (0, i6)] [] m14 Q1
        refine zw_push zr_27_0 ?_
        refine zw_7 zr_27_1 rfl ?_
        refine zw_46r (s := 6) zr_27_2 rfl rfl rfl rfl ?_
        refine zw_3 zr_27_5 rfl ?_
        refine zw_48 (c := 6) (len := 60) zr_27_6 rfl rfl (by omega) (by omega) ?_
        intro x15 ex15
        have bx15 := ib_6 hIm14 (k := (i6).toNat) (by omega)
        rw [← ex15] at bx15
        clear ex15
        refine zw_24h zr_27_7 ?_
        intro x16 hx16a hx16b
        refine zw_push zr_27_8 ?_
        refine zw_7 zr_27_9 rfl ?_
        refine zw_46r (s := 7) zr_27_10 rfl rfl rfl rfl ?_
        refine zw_3 zr_27_13 rfl ?_
        refine zw_48 (c := 7) (len := 60) zr_27_14 rfl rfl (by omega) (by omega) ?_
        intro x17 ex17
        have bx17 := ib_7 hIm14 (k := (i6).toNat) (by omega)
        rw [← ex17] at bx17
        clear ex17
        refine zw_24h zr_27_15 ?_
        intro x18 hx18a hx18b
        refine zw_22h zr_27_16 ?_
        intro x19 hx19a hx19b
        refine zw_R zr_27_17 (by decide) zm_27 (v := (0, x19)) rfl ?_
        rw [← hQ1]
        show zW E (d) 34 59 [(2, 52), (0, a0), (0, a1), (0, a2), (0, i5), (0, i6)] [(0, x19), (0, i5)] m14 Q
        refine zw_22h zr_34_59 ?_
        intro x20 hx20a hx20b
        refine zw_10 (L' := [(2, 52), (0, a0), (0, a1), (0, a2), (0, x20), (0, i6)]) zr_34_60 (Nat.le_of_ble_eq_true rfl) rfl ?_
        refine zw_7 zr_34_62 rfl ?_
        refine zw_46r (s := 1) zr_34_63 rfl rfl rfl rfl ?_
        refine zw_4 zr_34_66 rfl ?_
        refine zw_C zr_34_68 (Or.inl rfl) zm_28 rfl rfl ⟨Nat.le_of_ble_eq_true rfl, Nat.le_of_ble_eq_true rfl, Nat.le_of_ble_eq_true rfl, rfl, by decide⟩ (by omega) (P := (fun v m' => zW E (d) 34 71 [(2, 52), (0, a0), (0, a1), (0, a2), (0, x20), (0, i6)] (if v.1 = 9 then [] else v :: []) m' Q)) ?_ (fun _ _ h => h)
        generalize hQ1 : (fun v m' => zW E (d) 34 71 [(2, 52), (0, a0), (0, a1), (0, a2), (0, x20), (0, i6)] (if v.1 = 9 then [] else v :: []) m' Q) = Q1
        show zW E (d - 1) 28 0 [(2, 1), (0, i6)] [] m14 Q1
        refine zw_3 zr_28_0 rfl ?_
        refine zw_push zr_28_1 ?_
        refine zw_16 zr_28_2 (by omega) ?_
        refine zw_7 zr_28_3 rfl ?_
        refine zw_46i zr_28_4 km14_1_1 rfl rfl rfl ?_
        refine zw_41_3 zr_28_7 ?_ ?_
        · intro h21
          refine zw_push zr_28_27 ?_
          refine zw_42 zr_28_28 ?_
          refine zw_R zr_28_32 (by decide) zm_28 (v := (0, 1)) (zRetB (by omega)) ?_
          rw [← hQ1]
          show zW E (d) 34 71 [(2, 52), (0, a0), (0, a1), (0, a2), (0, x20), (0, i6)] [(0, 1)] m14 Q
          refine zw_40_1 zr_34_71 ?_ ?_
          · intro h22; omega
          · intro h23
            refine zw_7 zr_34_74 rfl ?_
            refine zw_4 zr_34_75 rfl ?_
            refine zw_3 zr_34_77 rfl ?_
            refine zw_3 zr_34_78 rfl ?_
            refine zw_C zr_34_79 (Or.inl rfl) zm_33 rfl rfl ⟨Nat.le_of_ble_eq_true rfl, Nat.le_of_ble_eq_true rfl, Nat.le_of_ble_eq_true rfl, rfl, by decide⟩ (by omega) (th_33 (d := d - 1) (by omega) hIm14 (a0 := x20) (a1 := a1) (a2 := a2)  (gY := i6) (F54 := f8)  fm14_54 (by omega) (by omega) (by omega) (hv0lp27_9) (by omega)) ?_
            rintro _ m26 ⟨rfl, hIm26, gm26, po0_m26⟩
            have hFm26 : zFr W_34 m0 m26 := hFm14.trans gm26 rfl
            have km26_1_1 : m26 1 1 = f11 := (gm26 1 1 rfl).trans km14_1_1
            obtain ⟨f27, fm26_54⟩ : ∃ f, m26 54 = f := ⟨_, rfl⟩
            try rw [fm26_54] at po0_m26
            show zW E (d) 34 82 [(2, 52), (0, a0), (0, a1), (0, a2), (0, x20), (0, i6)] [] m26 Q
            refine zw_push zr_34_82 ?_
            refine zw_10 (L' := [(2, 52), (0, a0), (0, a1), (0, a2), (0, 0), (0, i6)]) zr_34_83 (Nat.le_of_ble_eq_true rfl) rfl ?_
            refine zw_15 (c := 1) (L' := [(2, 52), (0, a0), (0, a1), (0, a2), (0, 0), (0, (i6 + 1))]) zr_34_85 rfl (by decide) (by omega) rfl ?_
            refine zw_42 zr_34_88 ?_
            exact zw_less (L := [(2, 52), (0, a0), (0, a1), (0, a2), (0, 0), (0, (i6 + 1))]) ⟨Or.inr rfl, Or.inr rfl, Or.inr rfl, Or.inr rfl, Or.inr rfl, Or.inr rfl, trivial⟩ (ihlp27_9 (0) ((i6 + 1)) (f27) m26 hIm26 hFm26   fm26_54 (by omega) (by omega) (by omega) (by omega) (by first | exact zY_next hv0lp27_9 | exact zY_next (by assumption)) (by omega))
        · intro h29
          refine zw_7 zr_28_10 rfl ?_
          refine zw_46r (s := 5) zr_28_11 rfl rfl rfl rfl ?_
          refine zw_3 zr_28_14 rfl ?_
          refine zw_push zr_28_15 ?_
          refine zw_16 zr_28_16 (by omega) ?_
          refine zw_48 (c := 5) (len := 60) zr_28_17 rfl rfl (by omega) (by omega) ?_
          intro x30 ex30
          have bx30 := ib_5 hIm14 (k := ((i6 + 1)).toNat) (by omega)
          rw [← ex30] at bx30
          clear ex30
          refine zw_7 zr_28_18 rfl ?_
          refine zw_46r (s := 5) zr_28_19 rfl rfl rfl rfl ?_
          refine zw_3 zr_28_22 rfl ?_
          refine zw_48 (c := 5) (len := 60) zr_28_23 rfl rfl (by omega) (by omega) ?_
          intro x31 ex31
          have bx31 := ib_5 hIm14 (k := (i6).toNat) (by omega)
          rw [← ex31] at bx31
          clear ex31
          refine zw_41_1 zr_28_24 ?_ ?_
          · intro h32
            refine zw_push zr_28_31 ?_
            refine zw_R zr_28_32 (by decide) zm_28 (v := (0, 0)) (zRetB (by omega)) ?_
            rw [← hQ1]
            show zW E (d) 34 71 [(2, 52), (0, a0), (0, a1), (0, a2), (0, x20), (0, i6)] [(0, 0)] m14 Q
            refine zw_40_1 zr_34_71 ?_ ?_
            · intro h33
              refine zw_15 (c := 1) (L' := [(2, 52), (0, a0), (0, a1), (0, a2), (0, x20), (0, (i6 + 1))]) zr_34_85 rfl (by decide) (by omega) rfl ?_
              refine zw_42 zr_34_88 ?_
              exact zw_less (L := [(2, 52), (0, a0), (0, a1), (0, a2), (0, x20), (0, (i6 + 1))]) ⟨Or.inr rfl, Or.inr rfl, Or.inr rfl, Or.inr rfl, Or.inr rfl, Or.inr rfl, trivial⟩ (ihlp27_9 (x20) ((i6 + 1)) (f8) m14 hIm14 hFm14   fm14_54 (by omega) (by omega) (by omega) (by omega) (by first | exact zY_next hv0lp27_9 | exact zY_next (by assumption)) (by omega))
            · intro h35; omega
          · intro h36
            refine zw_push zr_28_27 ?_
            refine zw_42 zr_28_28 ?_
            refine zw_R zr_28_32 (by decide) zm_28 (v := (0, 1)) (zRetB (by omega)) ?_
            rw [← hQ1]
            show zW E (d) 34 71 [(2, 52), (0, a0), (0, a1), (0, a2), (0, x20), (0, i6)] [(0, 1)] m14 Q
            refine zw_40_1 zr_34_71 ?_ ?_
            · intro h37; omega
            · intro h38
              refine zw_7 zr_34_74 rfl ?_
              refine zw_4 zr_34_75 rfl ?_
              refine zw_3 zr_34_77 rfl ?_
              refine zw_3 zr_34_78 rfl ?_
              refine zw_C zr_34_79 (Or.inl rfl) zm_33 rfl rfl ⟨Nat.le_of_ble_eq_true rfl, Nat.le_of_ble_eq_true rfl, Nat.le_of_ble_eq_true rfl, rfl, by decide⟩ (by omega) (th_33 (d := d - 1) (by omega) hIm14 (a0 := x20) (a1 := a1) (a2 := a2)  (gY := i6) (F54 := f8)  fm14_54 (by omega) (by omega) (by omega) (hv0lp27_9) (by omega)) ?_
              rintro _ m41 ⟨rfl, hIm41, gm41, po0_m41⟩
              have hFm41 : zFr W_34 m0 m41 := hFm14.trans gm41 rfl
              have km41_1_1 : m41 1 1 = f11 := (gm41 1 1 rfl).trans km14_1_1
              obtain ⟨f42, fm41_54⟩ : ∃ f, m41 54 = f := ⟨_, rfl⟩
              try rw [fm41_54] at po0_m41
              show zW E (d) 34 82 [(2, 52), (0, a0), (0, a1), (0, a2), (0, x20), (0, i6)] [] m41 Q
              refine zw_push zr_34_82 ?_
              refine zw_10 (L' := [(2, 52), (0, a0), (0, a1), (0, a2), (0, 0), (0, i6)]) zr_34_83 (Nat.le_of_ble_eq_true rfl) rfl ?_
              refine zw_15 (c := 1) (L' := [(2, 52), (0, a0), (0, a1), (0, a2), (0, 0), (0, (i6 + 1))]) zr_34_85 rfl (by decide) (by omega) rfl ?_
              refine zw_42 zr_34_88 ?_
              exact zw_less (L := [(2, 52), (0, a0), (0, a1), (0, a2), (0, 0), (0, (i6 + 1))]) ⟨Or.inr rfl, Or.inr rfl, Or.inr rfl, Or.inr rfl, Or.inr rfl, Or.inr rfl, trivial⟩ (ihlp27_9 (0) ((i6 + 1)) (f42) m41 hIm41 hFm41   fm41_54 (by omega) (by omega) (by omega) (by omega) (by first | exact zY_next hv0lp27_9 | exact zY_next (by assumption)) (by omega))
  exact lp27_9 _ (0) (0) (f3) m4 hIm4 hFm4  fm4_54 (by omega) (by omega) (by omega) (by omega) (zY_fil (by assumption)) (Nat.lt_succ_self _)

abbrev W_123 : List (Nat × Nat) := [(42, 0), (42, 1), (43, 5), (44, 1000), (45, 1), (45, 5), (45, 6), (45, 7), (45, 8), (45, 9), (46, 1000), (47, 1000), (48, 1000), (49, 1000), (50, 1000), (51, 1000), (52, 0), (52, 1), (52, 2), (53, 1000), (54, 1000)]
set_option maxHeartbeats 8000000 in
theorem th_123 {E : zE} {d : Nat} {m0 : zM} {a0 : Int} {a1 : Int} {a2 : Int} (hd : 96 ≤ d) (hI0 : zInv m0) (ha0 : (-2147483648) ≤ a0 ∧ a0 ≤ 2147483647) (ha1 : (-2147483648) ≤ a1 ∧ a1 ≤ 2147483647) (ha2 : (-2147483648) ≤ a2 ∧ a2 ≤ 2147483647) : zC E d 123 [(2, 0), (0, a0), (0, a1), (0, a2)] m0 (fun v m' => ∃ r : Int, v = (0, r) ∧ (-2) ≤ r ∧ r ≤ 9 ∧ zInv m' ∧ zFr W_123 m0 m') := by
  have hF0 : zFr W_123 m0 m0 := zFr.rfl
  generalize hQ : (fun (v : zV) (m' : zM) => ∃ r : Int, v = (0, r) ∧ (-2) ≤ r ∧ r ≤ 9 ∧ zInv m' ∧ zFr W_123 m0 m') = Q
  show zW E d 123 0 [(2, 0), (0, a0), (0, a1), (0, a2)] [] m0 Q
  refine zw_3 zr_123_0 rfl ?_
  refine zw_C zr_123_1 (Or.inr rfl) zm_104 rfl rfl ⟨Nat.le_of_ble_eq_true rfl, Nat.le_of_ble_eq_true rfl, Nat.le_of_ble_eq_true rfl, rfl, by decide⟩ (by omega) (P := (fun v m' => zW E (d) 123 4 [(2, 0), (0, a0), (0, a1), (0, a2)] (if v.1 = 9 then [] else v :: []) m' Q)) ?_ (fun _ _ h => h)
  generalize hQ1 : (fun v m' => zW E (d) 123 4 [(2, 0), (0, a0), (0, a1), (0, a2)] (if v.1 = 9 then [] else v :: []) m' Q) = Q1
  show zW E (d - 1) 104 0 [(0, a0)] [] m0 Q1
  refine zw_3 zr_104_0 rfl ?_
  refine zw_push zr_104_1 ?_
  refine zw_push zr_104_2 ?_
  refine zw_C zr_104_3 (Or.inr rfl) zm_100 rfl rfl ⟨Nat.le_of_ble_eq_true rfl, Nat.le_of_ble_eq_true rfl, Nat.le_of_ble_eq_true rfl, rfl, by decide⟩ (by omega) (P := (fun v m' => zW E (d - 1) 104 6 [(0, a0)] (if v.1 = 9 then [] else v :: []) m' Q1)) ?_ (fun _ _ h => h)
  generalize hQ2 : (fun v m' => zW E (d - 1) 104 6 [(0, a0)] (if v.1 = 9 then [] else v :: []) m' Q1) = Q2
  show zW E (d - 1 - 1) 100 0 [(0, a0), (0, 0), (0, 3)] [] m0 Q2
  refine zw_3 zr_100_0 rfl ?_
  refine zw_3 zr_100_1 rfl ?_
  refine zw_41_0 zr_100_2 ?_ ?_
  · intro h1
    refine zw_push zr_100_14 ?_
    refine zw_R zr_100_15 (by decide) zm_100 (v := (0, 0)) (zRetB (by omega)) ?_
    rw [← hQ2]
    show zW E (d - 1) 104 6 [(0, a0)] [(0, 0)] m0 Q1
    refine zw_R zr_104_6 (by decide) zm_104 (v := (0, 0)) (zRetB (by omega)) ?_
    rw [← hQ1]
    show zW E (d) 123 4 [(2, 0), (0, a0), (0, a1), (0, a2)] [(0, 0)] m0 Q
    refine zw_40_1 zr_123_4 ?_ ?_
    · intro h2
      refine zw_push zr_123_16 ?_
      refine zw_R zr_123_18 (by decide) zm_123 (v := (0, (-2))) rfl ?_
      rw [← hQ]; exact ⟨_, rfl, by omega, by omega, hI0, hF0⟩
    · intro h3; omega
  · intro h4
    refine zw_3 zr_100_5 rfl ?_
    refine zw_3 zr_100_6 rfl ?_
    refine zw_41_2 zr_100_7 ?_ ?_
    · intro h5
      refine zw_push zr_100_14 ?_
      refine zw_R zr_100_15 (by decide) zm_100 (v := (0, 0)) (zRetB (by omega)) ?_
      rw [← hQ2]
      show zW E (d - 1) 104 6 [(0, a0)] [(0, 0)] m0 Q1
      refine zw_R zr_104_6 (by decide) zm_104 (v := (0, 0)) (zRetB (by omega)) ?_
      rw [← hQ1]
      show zW E (d) 123 4 [(2, 0), (0, a0), (0, a1), (0, a2)] [(0, 0)] m0 Q
      refine zw_40_1 zr_123_4 ?_ ?_
      · intro h6
        refine zw_push zr_123_16 ?_
        refine zw_R zr_123_18 (by decide) zm_123 (v := (0, (-2))) rfl ?_
        rw [← hQ]; exact ⟨_, rfl, by omega, by omega, hI0, hF0⟩
      · intro h7; omega
    · intro h8
      refine zw_push zr_100_10 ?_
      refine zw_42 zr_100_11 ?_
      refine zw_R zr_100_15 (by decide) zm_100 (v := (0, 1)) (zRetB (by omega)) ?_
      rw [← hQ2]
      show zW E (d - 1) 104 6 [(0, a0)] [(0, 1)] m0 Q1
      refine zw_R zr_104_6 (by decide) zm_104 (v := (0, 1)) (zRetB (by omega)) ?_
      rw [← hQ1]
      show zW E (d) 123 4 [(2, 0), (0, a0), (0, a1), (0, a2)] [(0, 1)] m0 Q
      refine zw_40_1 zr_123_4 ?_ ?_
      · intro h9; omega
      · intro h10
        refine zw_3 zr_123_7 rfl ?_
        refine zw_push zr_123_8 ?_
        refine zw_push zr_123_9 ?_
        refine zw_C zr_123_10 (Or.inr rfl) zm_100 rfl rfl ⟨Nat.le_of_ble_eq_true rfl, Nat.le_of_ble_eq_true rfl, Nat.le_of_ble_eq_true rfl, rfl, by decide⟩ (by omega) (P := (fun v m' => zW E (d) 123 13 [(2, 0), (0, a0), (0, a1), (0, a2)] (if v.1 = 9 then [] else v :: []) m' Q)) ?_ (fun _ _ h => h)
        generalize hQ1 : (fun v m' => zW E (d) 123 13 [(2, 0), (0, a0), (0, a1), (0, a2)] (if v.1 = 9 then [] else v :: []) m' Q) = Q1
        show zW E (d - 1) 100 0 [(0, a1), (0, 0), (0, 2)] [] m0 Q1
        refine zw_3 zr_100_0 rfl ?_
        refine zw_3 zr_100_1 rfl ?_
        refine zw_41_0 zr_100_2 ?_ ?_
        · intro h11
          refine zw_push zr_100_14 ?_
          refine zw_R zr_100_15 (by decide) zm_100 (v := (0, 0)) (zRetB (by omega)) ?_
          rw [← hQ1]
          show zW E (d) 123 13 [(2, 0), (0, a0), (0, a1), (0, a2)] [(0, 0)] m0 Q
          refine zw_40_4 zr_123_13 ?_ ?_
          · intro h12; omega
          · intro h13
            refine zw_push zr_123_16 ?_
            refine zw_R zr_123_18 (by decide) zm_123 (v := (0, (-2))) rfl ?_
            rw [← hQ]; exact ⟨_, rfl, by omega, by omega, hI0, hF0⟩
        · intro h14
          refine zw_3 zr_100_5 rfl ?_
          refine zw_3 zr_100_6 rfl ?_
          refine zw_41_2 zr_100_7 ?_ ?_
          · intro h15
            refine zw_push zr_100_14 ?_
            refine zw_R zr_100_15 (by decide) zm_100 (v := (0, 0)) (zRetB (by omega)) ?_
            rw [← hQ1]
            show zW E (d) 123 13 [(2, 0), (0, a0), (0, a1), (0, a2)] [(0, 0)] m0 Q
            refine zw_40_4 zr_123_13 ?_ ?_
            · intro h16; omega
            · intro h17
              refine zw_push zr_123_16 ?_
              refine zw_R zr_123_18 (by decide) zm_123 (v := (0, (-2))) rfl ?_
              rw [← hQ]; exact ⟨_, rfl, by omega, by omega, hI0, hF0⟩
          · intro h18
            refine zw_push zr_100_10 ?_
            refine zw_42 zr_100_11 ?_
            refine zw_R zr_100_15 (by decide) zm_100 (v := (0, 1)) (zRetB (by omega)) ?_
            rw [← hQ1]
            show zW E (d) 123 13 [(2, 0), (0, a0), (0, a1), (0, a2)] [(0, 1)] m0 Q
            refine zw_40_4 zr_123_13 ?_ ?_
            · intro h19
              refine zw_3 zr_123_19 rfl ?_
              refine zw_push zr_123_20 ?_
              refine zw_41_4 zr_123_21 ?_ ?_
              · intro h20
                refine zw_7 zr_123_37 rfl ?_
                refine zw_46r (s := 52) zr_123_38 rfl rfl rfl rfl ?_
                refine zw_3 zr_123_41 rfl ?_
                refine zw_3 zr_123_42 rfl ?_
                refine zw_3 zr_123_43 rfl ?_
                refine zw_C zr_123_44 (Or.inl rfl) zm_34 rfl rfl ⟨Nat.le_of_ble_eq_true rfl, Nat.le_of_ble_eq_true rfl, Nat.le_of_ble_eq_true rfl, rfl, by decide⟩ (by omega) (th_34 (d := d - 1) (by omega) hI0 (a0 := a0) (a1 := a1) (a2 := a2)   (F54 := m0 54)  rfl (by omega) (by omega) (by omega) ) ?_
                rintro _ m21 ⟨rfl, hIm21, gm21⟩
                have hFm21 : zFr W_123 m0 m21 := hF0.trans gm21 rfl
                show zW E (d) 123 47 [(2, 0), (0, a0), (0, a1), (0, a2)] [] m21 Q
                refine zw_3 zr_123_47 rfl ?_
                refine zw_push zr_123_48 ?_
                refine zw_41_4 zr_123_49 ?_ ?_
                · intro h22
                  refine zw_7 zr_123_84 rfl ?_
                  refine zw_46r (s := 52) zr_123_85 rfl rfl rfl rfl ?_
                  obtain ⟨f23, ef23⟩ : ∃ v, m21 52 0 = v := ⟨_, rfl⟩
                  have bf23 := ib_52_0 hIm21
                  rw [ef23] at bf23
                  refine zw_46i zr_123_88 ef23 rfl rfl rfl ?_
                  refine zw_R zr_123_91 (by decide) zm_123 (v := (0, f23)) rfl ?_
                  rw [← hQ]; exact ⟨_, rfl, by omega, by omega, hIm21, hFm21⟩
                · intro h24
                  refine zw_7 zr_123_52 rfl ?_
                  refine zw_46r (s := 52) zr_123_53 rfl rfl rfl rfl ?_
                  obtain ⟨f25, ef25⟩ : ∃ v, m21 52 0 = v := ⟨_, rfl⟩
                  have bf25 := ib_52_0 hIm21
                  rw [ef25] at bf25
                  refine zw_46i zr_123_56 ef25 rfl rfl rfl ?_
                  refine zw_push zr_123_59 ?_
                  refine zw_41_1 zr_123_60 ?_ ?_
                  · intro h26
                    refine zw_7 zr_123_84 rfl ?_
                    refine zw_46r (s := 52) zr_123_85 rfl rfl rfl rfl ?_
                    refine zw_46i zr_123_88 ef25 rfl rfl rfl ?_
                    refine zw_R zr_123_91 (by decide) zm_123 (v := (0, f25)) rfl ?_
                    rw [← hQ]; exact ⟨_, rfl, by omega, by omega, hIm21, hFm21⟩
                  · intro h27
                    refine zw_7 zr_123_63 rfl ?_
                    refine zw_46r (s := 42) zr_123_64 rfl rfl rfl rfl ?_
                    refine zw_7 zr_123_67 rfl ?_
                    refine zw_46r (s := 52) zr_123_68 rfl rfl rfl rfl ?_
                    obtain ⟨f28, ef28⟩ : ∃ v, m21 52 1 = v := ⟨_, rfl⟩
                    have bf28 := hIm21.fl (c := 52) (k := 1) rfl
                    rw [ef28] at bf28
                    refine zw_46l zr_123_71 ef28 rfl rfl rfl ?_
                    refine zw_7 zr_123_74 rfl ?_
                    refine zw_46r (s := 52) zr_123_75 rfl rfl rfl rfl ?_
                    obtain ⟨f29, ef29⟩ : ∃ v, m21 52 2 = v := ⟨_, rfl⟩
                    have bf29 := hIm21.fl (c := 52) (k := 2) rfl
                    rw [ef29] at bf29
                    refine zw_46l zr_123_78 ef29 rfl rfl rfl ?_
                    refine zw_C zr_123_81 (Or.inl rfl) zm_38 rfl rfl ⟨Nat.le_of_ble_eq_true rfl, Nat.le_of_ble_eq_true rfl, Nat.le_of_ble_eq_true rfl, rfl, by decide⟩ (by omega) (th_38 (d := d - 1) (by omega) hIm21 (a0 := f28) (a1 := f29)      (by omega) (by omega) ) ?_
                    rintro _ m30 ⟨rfl, hIm30, gm30⟩
                    have hFm30 : zFr W_123 m0 m30 := hFm21.trans gm30 rfl
                    have km30_52_0 : m30 52 0 = f25 := (gm30 52 0 rfl).trans ef25
                    have km30_52_1 : m30 52 1 = f28 := (gm30 52 1 rfl).trans ef28
                    have km30_52_2 : m30 52 2 = f29 := (gm30 52 2 rfl).trans ef29
                    show zW E (d) 123 84 [(2, 0), (0, a0), (0, a1), (0, a2)] [] m30 Q
                    refine zw_7 zr_123_84 rfl ?_
                    refine zw_46r (s := 52) zr_123_85 rfl rfl rfl rfl ?_
                    refine zw_46i zr_123_88 km30_52_0 rfl rfl rfl ?_
                    refine zw_R zr_123_91 (by decide) zm_123 (v := (0, f25)) rfl ?_
                    rw [← hQ]; exact ⟨_, rfl, by omega, by omega, hIm30, hFm30⟩
              · intro h31
                refine zw_3 zr_123_24 rfl ?_
                refine zw_push zr_123_25 ?_
                refine zw_push zr_123_26 ?_
                refine zw_C zr_123_28 (Or.inr rfl) zm_100 rfl rfl ⟨Nat.le_of_ble_eq_true rfl, Nat.le_of_ble_eq_true rfl, Nat.le_of_ble_eq_true rfl, rfl, by decide⟩ (by omega) (P := (fun v m' => zW E (d) 123 31 [(2, 0), (0, a0), (0, a1), (0, a2)] (if v.1 = 9 then [] else v :: []) m' Q)) ?_ (fun _ _ h => h)
                generalize hQ1 : (fun v m' => zW E (d) 123 31 [(2, 0), (0, a0), (0, a1), (0, a2)] (if v.1 = 9 then [] else v :: []) m' Q) = Q1
                show zW E (d - 1) 100 0 [(0, a2), (0, 1), (0, 9)] [] m0 Q1
                refine zw_3 zr_100_0 rfl ?_
                refine zw_3 zr_100_1 rfl ?_
                refine zw_41_0 zr_100_2 ?_ ?_
                · intro h32
                  refine zw_push zr_100_14 ?_
                  refine zw_R zr_100_15 (by decide) zm_100 (v := (0, 0)) (zRetB (by omega)) ?_
                  rw [← hQ1]
                  show zW E (d) 123 31 [(2, 0), (0, a0), (0, a1), (0, a2)] [(0, 0)] m0 Q
                  refine zw_40_4 zr_123_31 ?_ ?_
                  · intro h33; omega
                  · intro h34
                    refine zw_push zr_123_34 ?_
                    refine zw_R zr_123_36 (by decide) zm_123 (v := (0, (-2))) rfl ?_
                    rw [← hQ]; exact ⟨_, rfl, by omega, by omega, hI0, hF0⟩
                · intro h35
                  refine zw_3 zr_100_5 rfl ?_
                  refine zw_3 zr_100_6 rfl ?_
                  refine zw_41_2 zr_100_7 ?_ ?_
                  · intro h36
                    refine zw_push zr_100_14 ?_
                    refine zw_R zr_100_15 (by decide) zm_100 (v := (0, 0)) (zRetB (by omega)) ?_
                    rw [← hQ1]
                    show zW E (d) 123 31 [(2, 0), (0, a0), (0, a1), (0, a2)] [(0, 0)] m0 Q
                    refine zw_40_4 zr_123_31 ?_ ?_
                    · intro h37; omega
                    · intro h38
                      refine zw_push zr_123_34 ?_
                      refine zw_R zr_123_36 (by decide) zm_123 (v := (0, (-2))) rfl ?_
                      rw [← hQ]; exact ⟨_, rfl, by omega, by omega, hI0, hF0⟩
                  · intro h39
                    refine zw_push zr_100_10 ?_
                    refine zw_42 zr_100_11 ?_
                    refine zw_R zr_100_15 (by decide) zm_100 (v := (0, 1)) (zRetB (by omega)) ?_
                    rw [← hQ1]
                    show zW E (d) 123 31 [(2, 0), (0, a0), (0, a1), (0, a2)] [(0, 1)] m0 Q
                    refine zw_40_4 zr_123_31 ?_ ?_
                    · intro h40
                      refine zw_7 zr_123_37 rfl ?_
                      refine zw_46r (s := 52) zr_123_38 rfl rfl rfl rfl ?_
                      refine zw_3 zr_123_41 rfl ?_
                      refine zw_3 zr_123_42 rfl ?_
                      refine zw_3 zr_123_43 rfl ?_
                      refine zw_C zr_123_44 (Or.inl rfl) zm_34 rfl rfl ⟨Nat.le_of_ble_eq_true rfl, Nat.le_of_ble_eq_true rfl, Nat.le_of_ble_eq_true rfl, rfl, by decide⟩ (by omega) (th_34 (d := d - 1) (by omega) hI0 (a0 := a0) (a1 := a1) (a2 := a2)   (F54 := m0 54)  rfl (by omega) (by omega) (by omega) ) ?_
                      rintro _ m41 ⟨rfl, hIm41, gm41⟩
                      have hFm41 : zFr W_123 m0 m41 := hF0.trans gm41 rfl
                      show zW E (d) 123 47 [(2, 0), (0, a0), (0, a1), (0, a2)] [] m41 Q
                      refine zw_3 zr_123_47 rfl ?_
                      refine zw_push zr_123_48 ?_
                      refine zw_41_4 zr_123_49 ?_ ?_
                      · intro h42
                        refine zw_7 zr_123_84 rfl ?_
                        refine zw_46r (s := 52) zr_123_85 rfl rfl rfl rfl ?_
                        obtain ⟨f43, ef43⟩ : ∃ v, m41 52 0 = v := ⟨_, rfl⟩
                        have bf43 := ib_52_0 hIm41
                        rw [ef43] at bf43
                        refine zw_46i zr_123_88 ef43 rfl rfl rfl ?_
                        refine zw_R zr_123_91 (by decide) zm_123 (v := (0, f43)) rfl ?_
                        rw [← hQ]; exact ⟨_, rfl, by omega, by omega, hIm41, hFm41⟩
                      · intro h44; omega
                    · intro h45; omega
            · intro h46; omega

abbrev W_193 : List (Nat × Nat) := [(69, 5), (69, 6), (69, 7), (69, 9), (69, 11), (69, 13), (69, 17), (69, 18), (69, 23), (73, 1000), (74, 1000), (75, 1000), (76, 1000), (77, 1000), (78, 1000), (82, 1000)]
set_option maxHeartbeats 8000000 in
theorem th_193 {E : zE} {d : Nat} {m0 : zM} {a0 : Int} {a1 : Int} (hd : 7 ≤ d) (hI0 : zInv m0) (ha0 : 0 ≤ a0 ∧ a0 ≤ 3) (ha1 : 0 ≤ a1 ∧ a1 ≤ 9) : zC E d 193 [(2, 69), (0, a0), (0, a1)] m0 (fun v m' => v = (9, 0) ∧ zInv m' ∧ zFr W_193 m0 m') := by
  have hF0 : zFr W_193 m0 m0 := zFr.rfl
  generalize hQ : (fun (v : zV) (m' : zM) => v = (9, 0) ∧ zInv m' ∧ zFr W_193 m0 m') = Q
  show zW E d 193 0 [(2, 69), (0, a0), (0, a1), (9, 0)] [] m0 Q
  refine zw_7 zr_193_0 rfl ?_
  refine zw_push zr_193_1 ?_
  refine zw_47 (c := 69) zr_193_2 rfl ⟨rfl, by decide, rfl⟩ ?_
  intro m1 em1
  have hIm1 : zInv m1 := by rw [em1]; exact hI0.bd (r := 69) (k := 23) (lo := 0) (hi := 100) rfl (by omega) (by decide) (by decide) (by decide)
  have hFm1 : zFr W_193 m0 m1 := by rw [em1]; exact hF0.up rfl
  have km1_69_23 : m1 69 23 = 0 := by rw [em1]; exact zUp_eq _ _ _ _
  clear em1
  refine zw_push zr_193_5 ?_
  refine zw_9 (L' := [(2, 69), (0, a0), (0, a1), (0, 0)]) zr_193_6 (Nat.le_of_ble_eq_true rfl) rfl ?_
  have lp7_5 : ∀ (nlp7_5 : Nat) (i2 p4 : Int) (m3 : zM), zInv m3 → zFr W_193 m0 m3 → m3 69 23 = p4 → 0 ≤ i2 → i2 ≤ 100 → 0 ≤ p4 → p4 ≤ 100 → (p4 ≤ i2) → (100 - i2).toNat < nlp7_5 → zW E (d) 193 7 [(2, 69), (0, a0), (0, a1), (0, i2)] [] m3 Q := by
    intro nlp7_5
    induction nlp7_5 with
    | zero =>
      intros
      exact absurd (by assumption : _ < 0) (Nat.not_lt_zero _)
    | succ nlp7_5 ihlp7_5 =>
      intro i2 p4 m3 hIm3 hFm3 km3_69_23 li2 ui2 lp4 up4 hv0lp7_5 hmlp7_5
      refine zw_3 zr_193_7 rfl ?_
      refine zw_push zr_193_8 ?_
      refine zw_41_3 zr_193_10 ?_ ?_
      · intro h7
        refine zw_R zr_193_59 (by decide) zm_193 (v := (9, 0)) rfl ?_
        rw [← hQ]; exact ⟨rfl, hIm3, hFm3⟩
      · intro h8
        refine zw_7 zr_193_13 rfl ?_
        refine zw_3 zr_193_14 rfl ?_
        refine zw_3 zr_193_15 rfl ?_
        refine zw_C zr_193_16 (Or.inl rfl) zm_172 rfl rfl ⟨Nat.le_of_ble_eq_true rfl, Nat.le_of_ble_eq_true rfl, Nat.le_of_ble_eq_true rfl, rfl, by decide⟩ (by omega) (th_172 (d := d - 1) (by omega) hIm3 (a0 := a1) (a1 := i2)   (F70 := m3 70)  rfl (by omega) (by omega) ) ?_
        rintro _ _ ⟨r9, rfl, hr9a, hr9b, rfl, po0_r9⟩
        show zW E (d) 193 19 [(2, 69), (0, a0), (0, a1), (0, i2)] [(0, r9)] m3 Q
        refine zw_40_1 zr_193_19 ?_ ?_
        · intro h10
          refine zw_15 (c := 1) (L' := [(2, 69), (0, a0), (0, a1), (0, (i2 + 1))]) zr_193_53 rfl (by decide) (by omega) rfl ?_
          refine zw_42 zr_193_56 ?_
          exact zw_less (L := [(2, 69), (0, a0), (0, a1), (0, (i2 + 1))]) ⟨Or.inr rfl, Or.inr rfl, Or.inr rfl, Or.inr rfl, trivial⟩ (ihlp7_5 ((i2 + 1)) (p4) m3 hIm3 hFm3  km3_69_23 (by omega) (by omega) (by omega) (by omega) (by omega) (by omega))
        · intro h11
          refine zw_7 zr_193_22 rfl ?_
          refine zw_3 zr_193_23 rfl ?_
          refine zw_3 zr_193_24 rfl ?_
          refine zw_C zr_193_25 (Or.inl rfl) zm_167 rfl rfl ⟨Nat.le_of_ble_eq_true rfl, Nat.le_of_ble_eq_true rfl, Nat.le_of_ble_eq_true rfl, rfl, by decide⟩ (by omega) (th_167 (d := d - 1) (by omega) hIm3 (a0 := a0) (a1 := i2)      (by omega) (by omega) ) ?_
          rintro _ m12 ⟨rfl, hIm12, gm12⟩
          have hFm12 : zFr W_193 m0 m12 := hFm3.trans gm12 rfl
          have km12_69_23 : m12 69 23 = p4 := (gm12 69 23 rfl).trans km3_69_23
          show zW E (d) 193 28 [(2, 69), (0, a0), (0, a1), (0, i2)] [] m12 Q
          refine zw_7 zr_193_28 rfl ?_
          refine zw_46r (s := 82) zr_193_29 rfl rfl rfl rfl ?_
          refine zw_7 zr_193_32 rfl ?_
          refine zw_46i zr_193_33 km12_69_23 rfl rfl rfl ?_
          refine zw_7 zr_193_36 rfl ?_
          refine zw_46r (s := 76) zr_193_37 rfl rfl rfl rfl ?_
          refine zw_3 zr_193_40 rfl ?_
          refine zw_48 (c := 76) (len := 10) zr_193_41 rfl rfl (by omega) (by omega) ?_
          intro x13 ex13
          have bx13 := hIm12.ra (c := 76) (len := 10) (k := (a1).toNat) rfl (by omega)
          rw [← ex13] at bx13
          clear ex13
          refine zw_49 (c := 82) (len := 100) zr_193_42 rfl rfl (by omega) (by omega) ?_
          intro m14 em14
          have hIm14 : zInv m14 := by rw [em14]; exact hIm12.any (by omega) rfl (by decide) (by decide)
          have hFm14 : zFr W_193 m0 m14 := by rw [em14]; exact hFm12.any rfl
          have km14_69_23 : m14 69 23 = p4 := by rw [em14, zUp_ne (by omega)]; exact km12_69_23
          clear em14
          refine zw_7 zr_193_43 rfl ?_
          refine zw_43 zr_193_44 rfl ?_
          refine zw_46i zr_193_45 km14_69_23 rfl rfl rfl ?_
          refine zw_push zr_193_48 ?_
          refine zw_16 zr_193_49 (by omega) ?_
          refine zw_47 (c := 69) zr_193_50 rfl ⟨rfl, by decide, rfl⟩ ?_
          intro m15 em15
          have hIm15 : zInv m15 := by rw [em15]; exact hIm14.bd (r := 69) (k := 23) (lo := 0) (hi := 100) rfl (by omega) (by decide) (by decide) (by decide)
          have hFm15 : zFr W_193 m0 m15 := by rw [em15]; exact hFm14.up rfl
          have km15_69_23 : m15 69 23 = (p4 + 1) := by rw [em15]; exact zUp_eq _ _ _ _
          clear em15
          refine zw_15 (c := 1) (L' := [(2, 69), (0, a0), (0, a1), (0, (i2 + 1))]) zr_193_53 rfl (by decide) (by omega) rfl ?_
          refine zw_42 zr_193_56 ?_
          exact zw_less (L := [(2, 69), (0, a0), (0, a1), (0, (i2 + 1))]) ⟨Or.inr rfl, Or.inr rfl, Or.inr rfl, Or.inr rfl, trivial⟩ (ihlp7_5 ((i2 + 1)) ((p4 + 1)) m15 hIm15 hFm15  km15_69_23 (by omega) (by omega) (by omega) (by omega) (by omega) (by omega))
  exact lp7_5 _ (0) (0) m1 hIm1 hFm1  km1_69_23 (by omega) (by omega) (by omega) (by omega) (by omega) (Nat.lt_succ_self _)

abbrev W_194 : List (Nat × Nat) := [(69, 5), (69, 6), (69, 7), (69, 9), (69, 11), (69, 13), (69, 17), (69, 18), (69, 23), (69, 24), (73, 1000), (74, 1000), (75, 1000), (76, 1000), (77, 1000), (78, 1000), (82, 1000)]
set_option maxHeartbeats 8000000 in
theorem th_194 {E : zE} {d : Nat} {m0 : zM} {a0 : Int} {a1 : Int} {a2 : Int} (hd : 8 ≤ d) (hI0 : zInv m0) (ha0 : 0 ≤ a0 ∧ a0 ≤ 3) (ha1 : 0 ≤ a1 ∧ a1 ≤ 9) (ha2 : 1 ≤ a2 ∧ a2 ≤ 9) : zC E d 194 [(2, 69), (0, a0), (0, a1), (0, a2)] m0 (fun v m' => ∃ r : Int, v = (0, r) ∧ 0 ≤ r ∧ r ≤ 1 ∧ zInv m' ∧ zFr W_194 m0 m') := by
  have hF0 : zFr W_194 m0 m0 := zFr.rfl
  generalize hQ : (fun (v : zV) (m' : zM) => ∃ r : Int, v = (0, r) ∧ 0 ≤ r ∧ r ≤ 1 ∧ zInv m' ∧ zFr W_194 m0 m') = Q
  show zW E d 194 0 [(2, 69), (0, a0), (0, a1), (0, a2), (9, 0), (9, 0), (9, 0)] [] m0 Q
  refine zw_7 zr_194_0 rfl ?_
  refine zw_3 zr_194_1 rfl ?_
  refine zw_3 zr_194_2 rfl ?_
  refine zw_C zr_194_3 (Or.inl rfl) zm_193 rfl rfl ⟨Nat.le_of_ble_eq_true rfl, Nat.le_of_ble_eq_true rfl, Nat.le_of_ble_eq_true rfl, rfl, by decide⟩ (by omega) (th_193 (d := d - 1) (by omega) hI0 (a0 := a0) (a1 := a1)      (by omega) (by omega) ) ?_
  rintro _ m1 ⟨rfl, hIm1, gm1⟩
  have hFm1 : zFr W_194 m0 m1 := hF0.trans gm1 rfl
  show zW E (d) 194 6 [(2, 69), (0, a0), (0, a1), (0, a2), (9, 0), (9, 0), (9, 0)] [] m1 Q
  refine zw_push zr_194_6 ?_
  refine zw_10 (L' := [(2, 69), (0, a0), (0, a1), (0, a2), (0, 0), (9, 0), (9, 0)]) zr_194_7 (Nat.le_of_ble_eq_true rfl) rfl ?_
  have lp9_4 : ∀ (nlp9_4 : Nat) (i2 : Int) (m3 : zM), zInv m3 → zFr W_194 m0 m3 → 0 ≤ i2 → i2 ≤ 100 → (100 - i2).toNat < nlp9_4 → zW E (d) 194 9 [(2, 69), (0, a0), (0, a1), (0, a2), (0, i2), (9, 0), (9, 0)] [] m3 Q := by
    intro nlp9_4
    induction nlp9_4 with
    | zero =>
      intros
      exact absurd (by assumption : _ < 0) (Nat.not_lt_zero _)
    | succ nlp9_4 ihlp9_4 =>
      intro i2 m3 hIm3 hFm3 li2 ui2 hmlp9_4
      refine zw_4 zr_194_9 rfl ?_
      refine zw_3 zr_194_11 rfl ?_
      refine zw_16 zr_194_12 (by omega) ?_
      refine zw_7 zr_194_13 rfl ?_
      obtain ⟨f6, ef6⟩ : ∃ v, m3 69 23 = v := ⟨_, rfl⟩
      have bf6 := ib_69_23 hIm3
      rw [ef6] at bf6
      refine zw_46i zr_194_14 ef6 rfl rfl rfl ?_
      refine zw_41_2 zr_194_17 ?_ ?_
      · intro h7
        refine zw_7 zr_194_107 rfl ?_
        refine zw_46i zr_194_108 ef6 rfl rfl rfl ?_
        refine zw_3 zr_194_111 rfl ?_
        refine zw_41_0 zr_194_112 ?_ ?_
        · intro h8
          refine zw_push zr_194_119 ?_
          refine zw_R zr_194_120 (by decide) zm_194 (v := (0, 0)) (zRetB (by omega)) ?_
          rw [← hQ]; exact ⟨_, rfl, by omega, by omega, hIm3, hFm3⟩
        · intro h9
          refine zw_push zr_194_115 ?_
          refine zw_42 zr_194_116 ?_
          refine zw_R zr_194_120 (by decide) zm_194 (v := (0, 1)) (zRetB (by omega)) ?_
          rw [← hQ]; exact ⟨_, rfl, by omega, by omega, hIm3, hFm3⟩
      · intro h10
        refine zw_7 zr_194_20 rfl ?_
        refine zw_46r (s := 82) zr_194_21 rfl rfl rfl rfl ?_
        refine zw_4 zr_194_24 rfl ?_
        refine zw_48 (c := 82) (len := 100) zr_194_26 rfl rfl (by omega) (by omega) ?_
        intro x11 ex11
        have bx11 := hIm3.ra (c := 82) (len := 100) (k := (i2).toNat) rfl (by omega)
        rw [← ex11] at bx11
        clear ex11
        refine zw_10 (L' := [(2, 69), (0, a0), (0, a1), (0, a2), (0, i2), (0, x11), (9, 0)]) zr_194_27 (Nat.le_of_ble_eq_true rfl) rfl ?_
        refine zw_4 zr_194_29 rfl ?_
        refine zw_10 (L' := [(2, 69), (0, a0), (0, a1), (0, a2), (0, i2), (0, x11), (0, i2)]) zr_194_31 (Nat.le_of_ble_eq_true rfl) rfl ?_
        have lp33_15 : ∀ (nlp33_15 : Nat) (i12 i13 : Int) (m14 : zM), zInv m14 → zFr W_194 m0 m14 → m14 69 23 = f6 → (-2147483648) ≤ i12 → i12 ≤ 2147483647 → 0 ≤ i13 → i13 ≤ 100 → (100 - i13).toNat < nlp33_15 → zW E (d) 194 33 [(2, 69), (0, a0), (0, a1), (0, a2), (0, i2), (0, i12), (0, i13)] [] m14 Q := by
          intro nlp33_15
          induction nlp33_15 with
          | zero =>
            intros
            exact absurd (by assumption : _ < 0) (Nat.not_lt_zero _)
          | succ nlp33_15 ihlp33_15 =>
            intro i12 i13 m14 hIm14 hFm14 km14_69_23 li12 ui12 li13 ui13 hmlp33_15
            refine zw_4 zr_194_33 rfl ?_
            refine zw_4 zr_194_35 rfl ?_
            refine zw_3 zr_194_37 rfl ?_
            refine zw_16 zr_194_38 (by omega) ?_
            refine zw_41_3 zr_194_39 ?_ ?_
            · intro h17
              refine zw_7 zr_194_74 rfl ?_
              refine zw_4 zr_194_75 rfl ?_
              refine zw_40_1 zr_194_77 ?_ ?_
              · intro h18
                refine zw_4 zr_194_89 rfl ?_
                refine zw_42 zr_194_91 ?_
                refine zw_47 (c := 69) zr_194_98 rfl ⟨rfl, by decide, rfl⟩ ?_
                intro m19 em19
                have hIm19 : zInv m19 := by rw [em19]; exact hIm14.any (by omega) rfl (by decide) (by decide)
                have hFm19 : zFr W_194 m0 m19 := by rw [em19]; exact hFm14.up rfl
                have km19_69_23 : m19 69 23 = f6 := by rw [em19, zUp_ne (by omega)]; exact km14_69_23
                have km19_69_24 : m19 69 24 = i12 := by rw [em19]; exact zUp_eq _ _ _ _
                clear em19
                refine zw_15 (c := 1) (L' := [(2, 69), (0, a0), (0, a1), (0, a2), (0, (i2 + 1)), (0, i12), (0, i13)]) zr_194_101 rfl (by decide) (by omega) rfl ?_
                refine zw_42 zr_194_104 ?_
                exact zw_less (L := [(2, 69), (0, a0), (0, a1), (0, a2), (0, (i2 + 1)), (9, 0), (9, 0)]) ⟨Or.inr rfl, Or.inr rfl, Or.inr rfl, Or.inr rfl, Or.inr rfl, Or.inl rfl, Or.inl rfl, trivial⟩ (ihlp9_4 ((i2 + 1)) m19 hIm19 hFm19   (by omega) (by omega)  (by omega))
              · intro h20
                refine zw_4 zr_194_80 rfl ?_
                refine zw_7 zr_194_82 rfl ?_
                obtain ⟨f21, ef21⟩ : ∃ v, m14 69 24 = v := ⟨_, rfl⟩
                have bf21 := hIm14.fi (c := 69) (k := 24) rfl
                rw [ef21] at bf21
                refine zw_46i zr_194_83 ef21 rfl rfl rfl ?_
                refine zw_41_5 zr_194_86 ?_ ?_
                · intro h22
                  refine zw_7 zr_194_94 rfl ?_
                  refine zw_46i zr_194_95 ef21 rfl rfl rfl ?_
                  refine zw_47 (c := 69) zr_194_98 rfl ⟨rfl, by decide, rfl⟩ ?_
                  intro m23 em23
                  have hIm23 : zInv m23 := by rw [em23]; exact hIm14.any (by omega) rfl (by decide) (by decide)
                  have hFm23 : zFr W_194 m0 m23 := by rw [em23]; exact hFm14.up rfl
                  have km23_69_23 : m23 69 23 = f6 := by rw [em23, zUp_ne (by omega)]; exact km14_69_23
                  have km23_69_24 : m23 69 24 = f21 := by rw [em23]; exact zUp_eq _ _ _ _
                  clear em23
                  refine zw_15 (c := 1) (L' := [(2, 69), (0, a0), (0, a1), (0, a2), (0, (i2 + 1)), (0, i12), (0, i13)]) zr_194_101 rfl (by decide) (by omega) rfl ?_
                  refine zw_42 zr_194_104 ?_
                  exact zw_less (L := [(2, 69), (0, a0), (0, a1), (0, a2), (0, (i2 + 1)), (9, 0), (9, 0)]) ⟨Or.inr rfl, Or.inr rfl, Or.inr rfl, Or.inr rfl, Or.inr rfl, Or.inl rfl, Or.inl rfl, trivial⟩ (ihlp9_4 ((i2 + 1)) m23 hIm23 hFm23   (by omega) (by omega)  (by omega))
                · intro h24
                  refine zw_4 zr_194_89 rfl ?_
                  refine zw_42 zr_194_91 ?_
                  refine zw_47 (c := 69) zr_194_98 rfl ⟨rfl, by decide, rfl⟩ ?_
                  intro m25 em25
                  have hIm25 : zInv m25 := by rw [em25]; exact hIm14.any (by omega) rfl (by decide) (by decide)
                  have hFm25 : zFr W_194 m0 m25 := by rw [em25]; exact hFm14.up rfl
                  have km25_69_23 : m25 69 23 = f6 := by rw [em25, zUp_ne (by omega)]; exact km14_69_23
                  have km25_69_24 : m25 69 24 = i12 := by rw [em25]; exact zUp_eq _ _ _ _
                  clear em25
                  refine zw_15 (c := 1) (L' := [(2, 69), (0, a0), (0, a1), (0, a2), (0, (i2 + 1)), (0, i12), (0, i13)]) zr_194_101 rfl (by decide) (by omega) rfl ?_
                  refine zw_42 zr_194_104 ?_
                  exact zw_less (L := [(2, 69), (0, a0), (0, a1), (0, a2), (0, (i2 + 1)), (9, 0), (9, 0)]) ⟨Or.inr rfl, Or.inr rfl, Or.inr rfl, Or.inr rfl, Or.inr rfl, Or.inl rfl, Or.inl rfl, trivial⟩ (ihlp9_4 ((i2 + 1)) m25 hIm25 hFm25   (by omega) (by omega)  (by omega))
            · intro h26
              refine zw_7 zr_194_42 rfl ?_
              refine zw_46r (s := 82) zr_194_43 rfl rfl rfl rfl ?_
              refine zw_4 zr_194_46 rfl ?_
              refine zw_48 (c := 82) (len := 100) zr_194_48 rfl rfl (by omega) (by omega) ?_
              intro x27 ex27
              have bx27 := hIm14.ra (c := 82) (len := 100) (k := (i13).toNat) rfl (by omega)
              rw [← ex27] at bx27
              refine zw_4 zr_194_49 rfl ?_
              refine zw_41_3 zr_194_51 ?_ ?_
              · intro h28
                refine zw_4 zr_194_64 rfl ?_
                refine zw_10 (L' := [(2, 69), (0, a0), (0, a1), (0, a2), (0, i2), (0, i12), (0, i13)]) zr_194_66 (Nat.le_of_ble_eq_true rfl) rfl ?_
                refine zw_15 (c := 1) (L' := [(2, 69), (0, a0), (0, a1), (0, a2), (0, i2), (0, i12), (0, (i13 + 1))]) zr_194_68 rfl (by decide) (by omega) rfl ?_
                refine zw_42 zr_194_71 ?_
                exact zw_less (L := [(2, 69), (0, a0), (0, a1), (0, a2), (0, i2), (0, i12), (0, (i13 + 1))]) ⟨Or.inr rfl, Or.inr rfl, Or.inr rfl, Or.inr rfl, Or.inr rfl, Or.inr rfl, Or.inr rfl, trivial⟩ (ihlp33_15 (i12) ((i13 + 1)) m14 hIm14 hFm14  km14_69_23 (by omega) (by omega) (by omega) (by omega)  (by omega))
              · intro h29
                refine zw_7 zr_194_54 rfl ?_
                refine zw_46r (s := 82) zr_194_55 rfl rfl rfl rfl ?_
                refine zw_4 zr_194_58 rfl ?_
                refine zw_48k (c := 82) (len := 100) zr_194_60 rfl rfl (by omega) (by omega) rfl ex27.symm ?_
                refine zw_42 zr_194_61 ?_
                refine zw_10 (L' := [(2, 69), (0, a0), (0, a1), (0, a2), (0, i2), (0, x27), (0, i13)]) zr_194_66 (Nat.le_of_ble_eq_true rfl) rfl ?_
                refine zw_15 (c := 1) (L' := [(2, 69), (0, a0), (0, a1), (0, a2), (0, i2), (0, x27), (0, (i13 + 1))]) zr_194_68 rfl (by decide) (by omega) rfl ?_
                refine zw_42 zr_194_71 ?_
                exact zw_less (L := [(2, 69), (0, a0), (0, a1), (0, a2), (0, i2), (0, x27), (0, (i13 + 1))]) ⟨Or.inr rfl, Or.inr rfl, Or.inr rfl, Or.inr rfl, Or.inr rfl, Or.inr rfl, Or.inr rfl, trivial⟩ (ihlp33_15 (x27) ((i13 + 1)) m14 hIm14 hFm14  km14_69_23 (by omega) (by omega) (by omega) (by omega)  (by omega))
        exact lp33_15 _ (x11) (i2) m3 hIm3 hFm3  ef6 (by omega) (by omega) (by omega) (by omega)  (Nat.lt_succ_self _)
  exact lp9_4 _ (0) m1 hIm1 hFm1   (by omega) (by omega)  (Nat.lt_succ_self _)

abbrev W_195 : List (Nat × Nat) := [(69, 3), (69, 4), (69, 5), (69, 6), (69, 7), (69, 9), (69, 11), (69, 13), (69, 17), (69, 18), (73, 1000), (74, 1000), (75, 1000), (76, 1000), (77, 1000), (78, 1000)]
set_option maxHeartbeats 8000000 in
theorem th_195 {E : zE} {d : Nat} {m0 : zM} {a0 : Int} {F70 : Nat → Int} (hd : 7 ≤ d) (hI0 : zInv m0) (hG70 : m0 70 = F70) (ha0 : 0 ≤ a0 ∧ a0 ≤ 3) : zC E d 195 [(2, 69), (0, a0)] m0 (fun v m' => ∃ r : Int, v = (0, r) ∧ (-1) ≤ r ∧ r ≤ 9 ∧ zInv m' ∧ zFr W_195 m0 m') := by
  have hF0 : zFr W_195 m0 m0 := zFr.rfl
  generalize hQ : (fun (v : zV) (m' : zM) => ∃ r : Int, v = (0, r) ∧ (-1) ≤ r ∧ r ≤ 9 ∧ zInv m' ∧ zFr W_195 m0 m') = Q
  show zW E d 195 0 [(2, 69), (0, a0), (9, 0), (9, 0), (9, 0), (9, 0), (9, 0), (9, 0), (9, 0), (9, 0), (9, 0), (9, 0), (9, 0), (9, 0), (9, 0)] [] m0 Q
  refine zw_push zr_195_0 ?_
  refine zw_9 (L' := [(2, 69), (0, a0), (0, (-1)), (9, 0), (9, 0), (9, 0), (9, 0), (9, 0), (9, 0), (9, 0), (9, 0), (9, 0), (9, 0), (9, 0), (9, 0)]) zr_195_1 (Nat.le_of_ble_eq_true rfl) rfl ?_
  refine zw_push zr_195_2 ?_
  refine zw_13 (L' := [(2, 69), (0, a0), (0, (-1)), (1, 0), (9, 0), (9, 0), (9, 0), (9, 0), (9, 0), (9, 0), (9, 0), (9, 0), (9, 0), (9, 0), (9, 0)]) zr_195_3 (Nat.le_of_ble_eq_true rfl) rfl ?_
  refine zw_push zr_195_4 ?_
  refine zw_14 (L' := [(2, 69), (0, a0), (0, (-1)), (1, 0), (9, 0), (1, 1), (9, 0), (9, 0), (9, 0), (9, 0), (9, 0), (9, 0), (9, 0), (9, 0), (9, 0)]) zr_195_5 (Nat.le_of_ble_eq_true rfl) rfl ?_
  refine zw_push zr_195_7 ?_
  refine zw_10 (L' := [(2, 69), (0, a0), (0, (-1)), (1, 0), (9, 0), (1, 1), (9, 0), (0, 0), (9, 0), (9, 0), (9, 0), (9, 0), (9, 0), (9, 0), (9, 0)]) zr_195_8 (Nat.le_of_ble_eq_true rfl) rfl ?_
  have lp10_6 : ∀ (nlp10_6 : Nat) (i1 i2 i3 i4 : Int) (m5 : zM), zInv m5 → zFr W_195 m0 m5 → m5 70 = F70 → (-1) ≤ i1 → i1 ≤ 9 → (-9223372036854775808) ≤ i2 → i2 ≤ 9223372036854775807 → 1 ≤ i3 → i3 ≤ 10 → 0 ≤ i4 → i4 ≤ 10 → (10 - i4).toNat < nlp10_6 → zW E (d) 195 10 [(2, 69), (0, a0), (0, i1), (1, i2), (9, 0), (1, i3), (9, 0), (0, i4), (9, 0), (9, 0), (9, 0), (9, 0), (9, 0), (9, 0), (9, 0)] [] m5 Q := by
    intro nlp10_6
    induction nlp10_6 with
    | zero =>
      intros
      exact absurd (by assumption : _ < 0) (Nat.not_lt_zero _)
    | succ nlp10_6 ihlp10_6 =>
      intro i1 i2 i3 i4 m5 hIm5 hFm5 fm5_70 li1 ui1 li2 ui2 li3 ui3 li4 ui4 hmlp10_6
      refine zw_4 zr_195_10 rfl ?_
      refine zw_7 zr_195_12 rfl ?_
      refine zw_C zr_195_13 (Or.inl rfl) zm_141 rfl rfl ⟨Nat.le_of_ble_eq_true rfl, Nat.le_of_ble_eq_true rfl, Nat.le_of_ble_eq_true rfl, rfl, by decide⟩ (by omega) (P := (fun v m' => zW E (d) 195 16 [(2, 69), (0, a0), (0, i1), (1, i2), (9, 0), (1, i3), (9, 0), (0, i4), (9, 0), (9, 0), (9, 0), (9, 0), (9, 0), (9, 0), (9, 0)] (if v.1 = 9 then [(0, i4)] else v :: [(0, i4)]) m' Q)) ?_ (fun _ _ h => h)
      generalize hQ1 : (fun v m' => zW E (d) 195 16 [(2, 69), (0, a0), (0, i1), (1, i2), (9, 0), (1, i3), (9, 0), (0, i4), (9, 0), (9, 0), (9, 0), (9, 0), (9, 0), (9, 0), (9, 0)] (if v.1 = 9 then [(0, i4)] else v :: [(0, i4)]) m' Q) = Q1
      show zW E (d - 1) 141 0 [(2, 69)] [] m5 Q1
      refine zw_7 zr_141_0 rfl ?_
      refine zw_46r (s := 70) zr_141_1 rfl rfl rfl rfl ?_
      refine zw_push zr_141_4 ?_
      obtain ⟨f8, ef8⟩ : ∃ v, m5 70 822 = v := ⟨_, rfl⟩
      have bf8 : 0 ≤ m5 70 822 ∧ m5 70 822 ≤ 10 := ib_70_players hIm5 (by omega)
      rw [ef8] at bf8
      refine zw_48k (c := 70) (len := 826) zr_141_7 rfl rfl (by omega) (by omega) (show (822 : Int).toNat = 822 by omega) ef8 ?_
      refine zw_R zr_141_8 (by decide) zm_141 (v := (0, f8)) rfl ?_
      rw [← hQ1]
      show zW E (d) 195 16 [(2, 69), (0, a0), (0, i1), (1, i2), (9, 0), (1, i3), (9, 0), (0, i4), (9, 0), (9, 0), (9, 0), (9, 0), (9, 0), (9, 0), (9, 0)] [(0, f8), (0, i4)] m5 Q
      refine zw_41_3 zr_195_16 ?_ ?_
      · intro h9
        refine zw_3 zr_195_157 rfl ?_
        refine zw_push zr_195_158 ?_
        refine zw_41_1 zr_195_159 ?_ ?_
        · intro h10
          refine zw_3 zr_195_169 rfl ?_
          refine zw_R zr_195_170 (by decide) zm_195 (v := (0, i1)) rfl ?_
          rw [← hQ]; exact ⟨_, rfl, by omega, by omega, hIm5, hFm5⟩
        · intro h11
          refine zw_7 zr_195_162 rfl ?_
          refine zw_5 zr_195_163 rfl ?_
          refine zw_6 zr_195_164 rfl ?_
          refine zw_C zr_195_166 (Or.inl rfl) zm_173 rfl rfl ⟨Nat.le_of_ble_eq_true rfl, Nat.le_of_ble_eq_true rfl, Nat.le_of_ble_eq_true rfl, rfl, by decide⟩ (by omega) (th_173 (d := d - 1) (by omega) hIm5 (a0 := i2) (a1 := i3)      (by omega) (by omega) ) ?_
          rintro _ m12 ⟨rfl, hIm12, gm12⟩
          have hFm12 : zFr W_195 m0 m12 := hFm5.trans gm12 rfl
          have km12_70_822 : m12 70 822 = f8 := (gm12 70 822 rfl).trans ef8
          have fm12_70 : m12 70 = F70 := (funext fun k => gm12 70 k rfl).trans fm5_70
          show zW E (d) 195 169 [(2, 69), (0, a0), (0, i1), (1, i2), (9, 0), (1, i3), (9, 0), (0, i4), (9, 0), (9, 0), (9, 0), (9, 0), (9, 0), (9, 0), (9, 0)] [] m12 Q
          refine zw_3 zr_195_169 rfl ?_
          refine zw_R zr_195_170 (by decide) zm_195 (v := (0, i1)) rfl ?_
          rw [← hQ]; exact ⟨_, rfl, by omega, by omega, hIm12, hFm12⟩
      · intro h13
        refine zw_push zr_195_19 ?_
        refine zw_10 (L' := [(2, 69), (0, a0), (0, i1), (1, i2), (9, 0), (1, i3), (9, 0), (0, i4), (0, 0), (9, 0), (9, 0), (9, 0), (9, 0), (9, 0), (9, 0)]) zr_195_20 (Nat.le_of_ble_eq_true rfl) rfl ?_
        have lp22_19 : ∀ (nlp22_19 : Nat) (i14 i15 i16 i17 : Int) (m18 : zM), zInv m18 → zFr W_195 m0 m18 → m18 70 822 = f8 → m18 70 = F70 → (-1) ≤ i14 → i14 ≤ 9 → (-9223372036854775808) ≤ i15 → i15 ≤ 9223372036854775807 → 1 ≤ i16 → i16 ≤ 10 → 0 ≤ i17 → i17 ≤ 100 → (100 - i17).toNat < nlp22_19 → zW E (d) 195 22 [(2, 69), (0, a0), (0, i14), (1, i15), (9, 0), (1, i16), (9, 0), (0, i4), (0, i17), (9, 0), (9, 0), (9, 0), (9, 0), (9, 0), (9, 0)] [] m18 Q := by
          intro nlp22_19
          induction nlp22_19 with
          | zero =>
            intros
            exact absurd (by assumption : _ < 0) (Nat.not_lt_zero _)
          | succ nlp22_19 ihlp22_19 =>
            intro i14 i15 i16 i17 m18 hIm18 hFm18 km18_70_822 fm18_70 li14 ui14 li15 ui15 li16 ui16 li17 ui17 hmlp22_19
            refine zw_4 zr_195_22 rfl ?_
            refine zw_push zr_195_24 ?_
            refine zw_41_3 zr_195_26 ?_ ?_
            · intro h21
              refine zw_15 (c := 1) (L' := [(2, 69), (0, a0), (0, i14), (1, i15), (9, 0), (1, i16), (9, 0), (0, (i4 + 1)), (0, i17), (9, 0), (9, 0), (9, 0), (9, 0), (9, 0), (9, 0)]) zr_195_151 rfl (by decide) (by omega) rfl ?_
              refine zw_42 zr_195_154 ?_
              exact zw_less (L := [(2, 69), (0, a0), (0, i14), (1, i15), (9, 0), (1, i16), (9, 0), (0, (i4 + 1)), (9, 0), (9, 0), (9, 0), (9, 0), (9, 0), (9, 0), (9, 0)]) ⟨Or.inr rfl, Or.inr rfl, Or.inr rfl, Or.inr rfl, Or.inl rfl, Or.inr rfl, Or.inl rfl, Or.inr rfl, Or.inl rfl, Or.inl rfl, Or.inl rfl, Or.inl rfl, Or.inl rfl, Or.inl rfl, Or.inl rfl, trivial⟩ (ihlp10_6 (i14) (i15) (i16) ((i4 + 1)) m18 hIm18 hFm18   fm18_70 (by omega) (by omega) (by omega) (by omega) (by omega) (by omega) (by omega) (by omega)  (by omega))
            · intro h22
              refine zw_7 zr_195_29 rfl ?_
              refine zw_4 zr_195_30 rfl ?_
              refine zw_4 zr_195_32 rfl ?_
              refine zw_C zr_195_34 (Or.inl rfl) zm_172 rfl rfl ⟨Nat.le_of_ble_eq_true rfl, Nat.le_of_ble_eq_true rfl, Nat.le_of_ble_eq_true rfl, rfl, by decide⟩ (by omega) (th_172 (d := d - 1) (by omega) hIm18 (a0 := i4) (a1 := i17)   (F70 := F70)  fm18_70 (by omega) (by omega) ) ?_
              rintro _ _ ⟨r23, rfl, hr23a, hr23b, rfl, po0_r23⟩
              show zW E (d) 195 37 [(2, 69), (0, a0), (0, i14), (1, i15), (9, 0), (1, i16), (9, 0), (0, i4), (0, i17), (9, 0), (9, 0), (9, 0), (9, 0), (9, 0), (9, 0)] [(0, r23)] m18 Q
              refine zw_40_1 zr_195_37 ?_ ?_
              · intro h24
                refine zw_15 (c := 1) (L' := [(2, 69), (0, a0), (0, i14), (1, i15), (9, 0), (1, i16), (9, 0), (0, i4), (0, (i17 + 1)), (9, 0), (9, 0), (9, 0), (9, 0), (9, 0), (9, 0)]) zr_195_145 rfl (by decide) (by omega) rfl ?_
                refine zw_42 zr_195_148 ?_
                exact zw_less (L := [(2, 69), (0, a0), (0, i14), (1, i15), (9, 0), (1, i16), (9, 0), (0, i4), (0, (i17 + 1)), (9, 0), (9, 0), (9, 0), (9, 0), (9, 0), (9, 0)]) ⟨Or.inr rfl, Or.inr rfl, Or.inr rfl, Or.inr rfl, Or.inl rfl, Or.inr rfl, Or.inl rfl, Or.inr rfl, Or.inr rfl, Or.inl rfl, Or.inl rfl, Or.inl rfl, Or.inl rfl, Or.inl rfl, Or.inl rfl, trivial⟩ (ihlp22_19 (i14) (i15) (i16) ((i17 + 1)) m18 hIm18 hFm18  km18_70_822 fm18_70 (by omega) (by omega) (by omega) (by omega) (by omega) (by omega) (by omega) (by omega)  (by omega))
              · intro h25
                refine zw_7 zr_195_40 rfl ?_
                refine zw_3 zr_195_41 rfl ?_
                refine zw_4 zr_195_42 rfl ?_
                refine zw_C zr_195_44 (Or.inl rfl) zm_167 rfl rfl ⟨Nat.le_of_ble_eq_true rfl, Nat.le_of_ble_eq_true rfl, Nat.le_of_ble_eq_true rfl, rfl, by decide⟩ (by omega) (th_167 (d := d - 1) (by omega) hIm18 (a0 := a0) (a1 := i17)      (by omega) (by omega) ) ?_
                rintro _ m26 ⟨rfl, hIm26, gm26⟩
                have hFm26 : zFr W_195 m0 m26 := hFm18.trans gm26 rfl
                have km26_70_822 : m26 70 822 = f8 := (gm26 70 822 rfl).trans km18_70_822
                have fm26_70 : m26 70 = F70 := (funext fun k => gm26 70 k rfl).trans fm18_70
                show zW E (d) 195 47 [(2, 69), (0, a0), (0, i14), (1, i15), (9, 0), (1, i16), (9, 0), (0, i4), (0, i17), (9, 0), (9, 0), (9, 0), (9, 0), (9, 0), (9, 0)] [] m26 Q
                refine zw_push zr_195_47 ?_
                refine zw_14 (L' := [(2, 69), (0, a0), (0, i14), (1, i15), (9, 0), (1, i16), (9, 0), (0, i4), (0, i17), (1, 0), (9, 0), (9, 0), (9, 0), (9, 0), (9, 0)]) zr_195_48 (Nat.le_of_ble_eq_true rfl) rfl ?_
                refine zw_push zr_195_50 ?_
                refine zw_14 (L' := [(2, 69), (0, a0), (0, i14), (1, i15), (9, 0), (1, i16), (9, 0), (0, i4), (0, i17), (1, 0), (9, 0), (1, 0), (9, 0), (9, 0), (9, 0)]) zr_195_51 (Nat.le_of_ble_eq_true rfl) rfl ?_
                refine zw_push zr_195_53 ?_
                refine zw_10 (L' := [(2, 69), (0, a0), (0, i14), (1, i15), (9, 0), (1, i16), (9, 0), (0, i4), (0, i17), (1, 0), (9, 0), (1, 0), (9, 0), (0, 0), (9, 0)]) zr_195_54 (Nat.le_of_ble_eq_true rfl) rfl ?_
                have lp56_30 : ∀ (nlp56_30 : Nat) (i27 i28 i29 : Int), (-9223372036854775808) ≤ i27 → i27 ≤ 9223372036854775807 → 0 ≤ i28 → i28 ≤ 10 → 0 ≤ i29 → i29 ≤ 10 → (i28 ≤ i29) → (i29 ≤ i4 ∨ 1 ≤ i28) → (10 - i29).toNat < nlp56_30 → zW E (d) 195 56 [(2, 69), (0, a0), (0, i14), (1, i15), (9, 0), (1, i16), (9, 0), (0, i4), (0, i17), (1, i27), (9, 0), (1, i28), (9, 0), (0, i29), (9, 0)] [] m26 Q := by
                  intro nlp56_30
                  induction nlp56_30 with
                  | zero =>
                    intros
                    exact absurd (by assumption : _ < 0) (Nat.not_lt_zero _)
                  | succ nlp56_30 ihlp56_30 =>
                    intro i27 i28 i29 li27 ui27 li28 ui28 li29 ui29 hv0lp56_30 hv1lp56_30 hmlp56_30
                    refine zw_4 zr_195_56 rfl ?_
                    refine zw_7 zr_195_58 rfl ?_
                    refine zw_C zr_195_59 (Or.inl rfl) zm_141 rfl rfl ⟨Nat.le_of_ble_eq_true rfl, Nat.le_of_ble_eq_true rfl, Nat.le_of_ble_eq_true rfl, rfl, by decide⟩ (by omega) (P := (fun v m' => zW E (d) 195 62 [(2, 69), (0, a0), (0, i14), (1, i15), (9, 0), (1, i16), (9, 0), (0, i4), (0, i17), (1, i27), (9, 0), (1, i28), (9, 0), (0, i29), (9, 0)] (if v.1 = 9 then [(0, i29)] else v :: [(0, i29)]) m' Q)) ?_ (fun _ _ h => h)
                    generalize hQ1 : (fun v m' => zW E (d) 195 62 [(2, 69), (0, a0), (0, i14), (1, i15), (9, 0), (1, i16), (9, 0), (0, i4), (0, i17), (1, i27), (9, 0), (1, i28), (9, 0), (0, i29), (9, 0)] (if v.1 = 9 then [(0, i29)] else v :: [(0, i29)]) m' Q) = Q1
                    show zW E (d - 1) 141 0 [(2, 69)] [] m26 Q1
                    refine zw_7 zr_141_0 rfl ?_
                    refine zw_46r (s := 70) zr_141_1 rfl rfl rfl rfl ?_
                    refine zw_push zr_141_4 ?_
                    refine zw_48k (c := 70) (len := 826) zr_141_7 rfl rfl (by omega) (by omega) (show (822 : Int).toNat = 822 by omega) km26_70_822 ?_
                    refine zw_R zr_141_8 (by decide) zm_141 (v := (0, f8)) rfl ?_
                    rw [← hQ1]
                    show zW E (d) 195 62 [(2, 69), (0, a0), (0, i14), (1, i15), (9, 0), (1, i16), (9, 0), (0, i4), (0, i17), (1, i27), (9, 0), (1, i28), (9, 0), (0, i29), (9, 0)] [(0, f8), (0, i29)] m26 Q
                    refine zw_41_3 zr_195_62 ?_ ?_
                    · intro h32
                      refine zw_6 zr_195_101 rfl ?_
                      refine zw_7 zr_195_103 rfl ?_
                      refine zw_46r (s := 76) zr_195_104 rfl rfl rfl rfl ?_
                      refine zw_4 zr_195_107 rfl ?_
                      refine zw_48 (c := 76) (len := 10) zr_195_109 rfl rfl (by omega) (by omega) ?_
                      intro x33 ex33
                      have bx33 := hIm26.ra (c := 76) (len := 10) (k := (i4).toNat) rfl (by omega)
                      rw [← ex33] at bx33
                      clear ex33
                      refine zw_36 zr_195_110 ?_
                      refine zw_29h zr_195_111 ?_
                      intro x34 hx34a hx34b
                      refine zw_6 zr_195_112 rfl ?_
                      refine zw_28h zr_195_114 ?_
                      intro x35 hx35a hx35b
                      refine zw_14 (L' := [(2, 69), (0, a0), (0, i14), (1, i15), (9, 0), (1, i16), (9, 0), (0, i4), (0, i17), (1, i27), (9, 0), (1, i28), (9, 0), (1, x35), (9, 0)]) zr_195_115 (Nat.le_of_ble_eq_true rfl) rfl ?_
                      refine zw_3 zr_195_117 rfl ?_
                      refine zw_push zr_195_118 ?_
                      refine zw_41_1 zr_195_119 ?_ ?_
                      · intro h36
                        refine zw_4 zr_195_135 rfl ?_
                        refine zw_9 (L' := [(2, 69), (0, a0), (0, i4), (1, i15), (9, 0), (1, i16), (9, 0), (0, i4), (0, i17), (1, i27), (9, 0), (1, i28), (9, 0), (1, x35), (9, 0)]) zr_195_137 (Nat.le_of_ble_eq_true rfl) rfl ?_
                        refine zw_6 zr_195_138 rfl ?_
                        refine zw_13 (L' := [(2, 69), (0, a0), (0, i4), (1, x35), (9, 0), (1, i16), (9, 0), (0, i4), (0, i17), (1, i27), (9, 0), (1, i28), (9, 0), (1, x35), (9, 0)]) zr_195_140 (Nat.le_of_ble_eq_true rfl) rfl ?_
                        refine zw_6 zr_195_141 rfl ?_
                        refine zw_14 (L' := [(2, 69), (0, a0), (0, i4), (1, x35), (9, 0), (1, i28), (9, 0), (0, i4), (0, i17), (1, i27), (9, 0), (1, i28), (9, 0), (1, x35), (9, 0)]) zr_195_143 (Nat.le_of_ble_eq_true rfl) rfl ?_
                        refine zw_15 (c := 1) (L' := [(2, 69), (0, a0), (0, i4), (1, x35), (9, 0), (1, i28), (9, 0), (0, i4), (0, (i17 + 1)), (1, i27), (9, 0), (1, i28), (9, 0), (1, x35), (9, 0)]) zr_195_145 rfl (by decide) (by omega) rfl ?_
                        refine zw_42 zr_195_148 ?_
                        exact zw_less (L := [(2, 69), (0, a0), (0, i4), (1, x35), (9, 0), (1, i28), (9, 0), (0, i4), (0, (i17 + 1)), (9, 0), (9, 0), (9, 0), (9, 0), (9, 0), (9, 0)]) ⟨Or.inr rfl, Or.inr rfl, Or.inr rfl, Or.inr rfl, Or.inl rfl, Or.inr rfl, Or.inl rfl, Or.inr rfl, Or.inr rfl, Or.inl rfl, Or.inl rfl, Or.inl rfl, Or.inl rfl, Or.inl rfl, Or.inl rfl, trivial⟩ (ihlp22_19 (i4) (x35) (i28) ((i17 + 1)) m26 hIm26 hFm26  km26_70_822 fm26_70 (by omega) (by omega) (by omega) (by omega) (by omega) (by omega) (by omega) (by omega)  (by omega))
                      · intro h37
                        refine zw_6 zr_195_122 rfl ?_
                        refine zw_6 zr_195_124 rfl ?_
                        refine zw_29h zr_195_126 ?_
                        intro x38 hx38a hx38b
                        refine zw_5 zr_195_127 rfl ?_
                        refine zw_6 zr_195_128 rfl ?_
                        refine zw_29h zr_195_130 ?_
                        intro x39 hx39a hx39b
                        refine zw_39_5 zr_195_131 zr_195_132 ?_ ?_
                        · intro h40
                          refine zw_15 (c := 1) (L' := [(2, 69), (0, a0), (0, i14), (1, i15), (9, 0), (1, i16), (9, 0), (0, i4), (0, (i17 + 1)), (1, i27), (9, 0), (1, i28), (9, 0), (1, x35), (9, 0)]) zr_195_145 rfl (by decide) (by omega) rfl ?_
                          refine zw_42 zr_195_148 ?_
                          exact zw_less (L := [(2, 69), (0, a0), (0, i14), (1, i15), (9, 0), (1, i16), (9, 0), (0, i4), (0, (i17 + 1)), (9, 0), (9, 0), (9, 0), (9, 0), (9, 0), (9, 0)]) ⟨Or.inr rfl, Or.inr rfl, Or.inr rfl, Or.inr rfl, Or.inl rfl, Or.inr rfl, Or.inl rfl, Or.inr rfl, Or.inr rfl, Or.inl rfl, Or.inl rfl, Or.inl rfl, Or.inl rfl, Or.inl rfl, Or.inl rfl, trivial⟩ (ihlp22_19 (i14) (i15) (i16) ((i17 + 1)) m26 hIm26 hFm26  km26_70_822 fm26_70 (by omega) (by omega) (by omega) (by omega) (by omega) (by omega) (by omega) (by omega)  (by omega))
                        · intro h41
                          refine zw_4 zr_195_135 rfl ?_
                          refine zw_9 (L' := [(2, 69), (0, a0), (0, i4), (1, i15), (9, 0), (1, i16), (9, 0), (0, i4), (0, i17), (1, i27), (9, 0), (1, i28), (9, 0), (1, x35), (9, 0)]) zr_195_137 (Nat.le_of_ble_eq_true rfl) rfl ?_
                          refine zw_6 zr_195_138 rfl ?_
                          refine zw_13 (L' := [(2, 69), (0, a0), (0, i4), (1, x35), (9, 0), (1, i16), (9, 0), (0, i4), (0, i17), (1, i27), (9, 0), (1, i28), (9, 0), (1, x35), (9, 0)]) zr_195_140 (Nat.le_of_ble_eq_true rfl) rfl ?_
                          refine zw_6 zr_195_141 rfl ?_
                          refine zw_14 (L' := [(2, 69), (0, a0), (0, i4), (1, x35), (9, 0), (1, i28), (9, 0), (0, i4), (0, i17), (1, i27), (9, 0), (1, i28), (9, 0), (1, x35), (9, 0)]) zr_195_143 (Nat.le_of_ble_eq_true rfl) rfl ?_
                          refine zw_15 (c := 1) (L' := [(2, 69), (0, a0), (0, i4), (1, x35), (9, 0), (1, i28), (9, 0), (0, i4), (0, (i17 + 1)), (1, i27), (9, 0), (1, i28), (9, 0), (1, x35), (9, 0)]) zr_195_145 rfl (by decide) (by omega) rfl ?_
                          refine zw_42 zr_195_148 ?_
                          exact zw_less (L := [(2, 69), (0, a0), (0, i4), (1, x35), (9, 0), (1, i28), (9, 0), (0, i4), (0, (i17 + 1)), (9, 0), (9, 0), (9, 0), (9, 0), (9, 0), (9, 0)]) ⟨Or.inr rfl, Or.inr rfl, Or.inr rfl, Or.inr rfl, Or.inl rfl, Or.inr rfl, Or.inl rfl, Or.inr rfl, Or.inr rfl, Or.inl rfl, Or.inl rfl, Or.inl rfl, Or.inl rfl, Or.inl rfl, Or.inl rfl, trivial⟩ (ihlp22_19 (i4) (x35) (i28) ((i17 + 1)) m26 hIm26 hFm26  km26_70_822 fm26_70 (by omega) (by omega) (by omega) (by omega) (by omega) (by omega) (by omega) (by omega)  (by omega))
                    · intro h42
                      refine zw_7 zr_195_65 rfl ?_
                      refine zw_4 zr_195_66 rfl ?_
                      refine zw_4 zr_195_68 rfl ?_
                      refine zw_C zr_195_70 (Or.inl rfl) zm_172 rfl rfl ⟨Nat.le_of_ble_eq_true rfl, Nat.le_of_ble_eq_true rfl, Nat.le_of_ble_eq_true rfl, rfl, by decide⟩ (by omega) (th_172 (d := d - 1) (by omega) hIm26 (a0 := i29) (a1 := i17)   (F70 := F70)  fm26_70 (by omega) (by omega) ) ?_
                      rintro _ _ ⟨r43, rfl, hr43a, hr43b, rfl, po0_r43⟩
                      show zW E (d) 195 73 [(2, 69), (0, a0), (0, i14), (1, i15), (9, 0), (1, i16), (9, 0), (0, i4), (0, i17), (1, i27), (9, 0), (1, i28), (9, 0), (0, i29), (9, 0)] [(0, r43)] m26 Q
                      have z44 := zcgh F70 (i29) (i4) (i17) (F70 823).toNat
                      refine zw_40_1 zr_195_73 ?_ ?_
                      · intro h45
                        refine zw_15 (c := 1) (L' := [(2, 69), (0, a0), (0, i14), (1, i15), (9, 0), (1, i16), (9, 0), (0, i4), (0, i17), (1, i27), (9, 0), (1, i28), (9, 0), (0, (i29 + 1)), (9, 0)]) zr_195_95 rfl (by decide) (by omega) rfl ?_
                        refine zw_42 zr_195_98 ?_
                        exact zw_less (L := [(2, 69), (0, a0), (0, i14), (1, i15), (9, 0), (1, i16), (9, 0), (0, i4), (0, i17), (1, i27), (9, 0), (1, i28), (9, 0), (0, (i29 + 1)), (9, 0)]) ⟨Or.inr rfl, Or.inr rfl, Or.inr rfl, Or.inr rfl, Or.inl rfl, Or.inr rfl, Or.inl rfl, Or.inr rfl, Or.inr rfl, Or.inr rfl, Or.inl rfl, Or.inr rfl, Or.inl rfl, Or.inr rfl, Or.inl rfl, trivial⟩ (ihlp56_30 (i27) (i28) ((i29 + 1))  (by omega) (by omega) (by omega) (by omega) (by omega) (by omega) (by omega) (by omega) (by omega))
                      · intro h46
                        refine zw_6 zr_195_76 rfl ?_
                        refine zw_7 zr_195_78 rfl ?_
                        refine zw_46r (s := 76) zr_195_79 rfl rfl rfl rfl ?_
                        refine zw_4 zr_195_82 rfl ?_
                        refine zw_48 (c := 76) (len := 10) zr_195_84 rfl rfl (by omega) (by omega) ?_
                        intro x47 ex47
                        have bx47 := hIm26.ra (c := 76) (len := 10) (k := (i29).toNat) rfl (by omega)
                        rw [← ex47] at bx47
                        clear ex47
                        refine zw_36 zr_195_85 ?_
                        refine zw_27h zr_195_86 ?_
                        intro x48 hx48a hx48b
                        refine zw_14 (L' := [(2, 69), (0, a0), (0, i14), (1, i15), (9, 0), (1, i16), (9, 0), (0, i4), (0, i17), (1, x48), (9, 0), (1, i28), (9, 0), (0, i29), (9, 0)]) zr_195_87 (Nat.le_of_ble_eq_true rfl) rfl ?_
                        refine zw_6 zr_195_89 rfl ?_
                        refine zw_push zr_195_91 ?_
                        refine zw_27 zr_195_92 (by omega) ?_
                        refine zw_14 (L' := [(2, 69), (0, a0), (0, i14), (1, i15), (9, 0), (1, i16), (9, 0), (0, i4), (0, i17), (1, x48), (9, 0), (1, (i28 + 1)), (9, 0), (0, i29), (9, 0)]) zr_195_93 (Nat.le_of_ble_eq_true rfl) rfl ?_
                        refine zw_15 (c := 1) (L' := [(2, 69), (0, a0), (0, i14), (1, i15), (9, 0), (1, i16), (9, 0), (0, i4), (0, i17), (1, x48), (9, 0), (1, (i28 + 1)), (9, 0), (0, (i29 + 1)), (9, 0)]) zr_195_95 rfl (by decide) (by omega) rfl ?_
                        refine zw_42 zr_195_98 ?_
                        exact zw_less (L := [(2, 69), (0, a0), (0, i14), (1, i15), (9, 0), (1, i16), (9, 0), (0, i4), (0, i17), (1, x48), (9, 0), (1, (i28 + 1)), (9, 0), (0, (i29 + 1)), (9, 0)]) ⟨Or.inr rfl, Or.inr rfl, Or.inr rfl, Or.inr rfl, Or.inl rfl, Or.inr rfl, Or.inl rfl, Or.inr rfl, Or.inr rfl, Or.inr rfl, Or.inl rfl, Or.inr rfl, Or.inl rfl, Or.inr rfl, Or.inl rfl, trivial⟩ (ihlp56_30 (x48) ((i28 + 1)) ((i29 + 1))  (by omega) (by omega) (by omega) (by omega) (by omega) (by omega) (by omega) (by omega) (by omega))
                exact lp56_30 _ (0) (0) (0)  (by omega) (by omega) (by omega) (by omega) (by omega) (by omega) (by omega) (by omega) (Nat.lt_succ_self _)
        exact lp22_19 _ (i1) (i2) (i3) (0) m5 hIm5 hFm5  ef8 fm5_70 (by omega) (by omega) (by omega) (by omega) (by omega) (by omega) (by omega) (by omega)  (Nat.lt_succ_self _)
  exact lp10_6 _ ((-1)) (0) (1) (0) m0 hI0 hF0  hG70 (by omega) (by omega) (by omega) (by omega) (by omega) (by omega) (by omega) (by omega)  (Nat.lt_succ_self _)

abbrev W_196 : List (Nat × Nat) := [(69, 3), (69, 4), (69, 5), (69, 6), (69, 7), (69, 9), (69, 11), (69, 13), (69, 17), (69, 18), (69, 23), (69, 24), (73, 1000), (74, 1000), (75, 1000), (76, 1000), (77, 1000), (78, 1000), (82, 1000)]
set_option maxHeartbeats 8000000 in
theorem th_196 {E : zE} {d : Nat} {m0 : zM} {a0 : Int} {a1 : Int} {a2 : Int} (hd : 9 ≤ d) (hI0 : zInv m0) (ha0 : (-2147483648) ≤ a0 ∧ a0 ≤ 2147483647) (ha1 : (-2147483648) ≤ a1 ∧ a1 ≤ 2147483647) (ha2 : (-2147483648) ≤ a2 ∧ a2 ≤ 2147483647) : zC E d 196 [(2, 69), (0, a0), (0, a1), (0, a2)] m0 (fun v m' => ∃ r : Int, v = (0, r) ∧ (-2) ≤ r ∧ r ≤ 9 ∧ zInv m' ∧ zFr W_196 m0 m') := by
  have hF0 : zFr W_196 m0 m0 := zFr.rfl
  generalize hQ : (fun (v : zV) (m' : zM) => ∃ r : Int, v = (0, r) ∧ (-2) ≤ r ∧ r ≤ 9 ∧ zInv m' ∧ zFr W_196 m0 m') = Q
  show zW E d 196 0 [(2, 69), (0, a0), (0, a1), (0, a2), (9, 0), (9, 0), (9, 0)] [] m0 Q
  refine zw_3 zr_196_0 rfl ?_
  refine zw_C zr_196_1 (Or.inr rfl) zm_148 rfl rfl ⟨Nat.le_of_ble_eq_true rfl, Nat.le_of_ble_eq_true rfl, Nat.le_of_ble_eq_true rfl, rfl, by decide⟩ (by omega) (P := (fun v m' => zW E (d) 196 4 [(2, 69), (0, a0), (0, a1), (0, a2), (9, 0), (9, 0), (9, 0)] (if v.1 = 9 then [] else v :: []) m' Q)) ?_ (fun _ _ h => h)
  generalize hQ1 : (fun v m' => zW E (d) 196 4 [(2, 69), (0, a0), (0, a1), (0, a2), (9, 0), (9, 0), (9, 0)] (if v.1 = 9 then [] else v :: []) m' Q) = Q1
  show zW E (d - 1) 148 0 [(0, a0)] [] m0 Q1
  refine zw_3 zr_148_0 rfl ?_
  refine zw_36 zr_148_1 ?_
  refine zw_push zr_148_2 ?_
  refine zw_push zr_148_3 ?_
  refine zw_C zr_148_6 (Or.inr rfl) zm_140 rfl rfl ⟨Nat.le_of_ble_eq_true rfl, Nat.le_of_ble_eq_true rfl, Nat.le_of_ble_eq_true rfl, rfl, by decide⟩ (by omega) (P := (fun v m' => zW E (d - 1) 148 9 [(0, a0)] (if v.1 = 9 then [] else v :: []) m' Q1)) ?_ (fun _ _ h => h)
  generalize hQ2 : (fun v m' => zW E (d - 1) 148 9 [(0, a0)] (if v.1 = 9 then [] else v :: []) m' Q1) = Q2
  show zW E (d - 1 - 1) 140 0 [(1, a0), (9, 0), (1, 0), (9, 0), (1, 3), (9, 0)] [] m0 Q2
  refine zw_5 zr_140_0 rfl ?_
  refine zw_5 zr_140_1 rfl ?_
  refine zw_39_0 zr_140_2 zr_140_3 ?_ ?_
  · intro h1
    refine zw_push zr_140_17 ?_
    refine zw_R zr_140_18 (by decide) zm_140 (v := (0, 0)) (zRetB (by omega)) ?_
    rw [← hQ2]
    show zW E (d - 1) 148 9 [(0, a0)] [(0, 0)] m0 Q1
    refine zw_R zr_148_9 (by decide) zm_148 (v := (0, 0)) (zRetB (by omega)) ?_
    rw [← hQ1]
    show zW E (d) 196 4 [(2, 69), (0, a0), (0, a1), (0, a2), (9, 0), (9, 0), (9, 0)] [(0, 0)] m0 Q
    refine zw_40_1 zr_196_4 ?_ ?_
    · intro h2
      refine zw_push zr_196_36 ?_
      refine zw_R zr_196_38 (by decide) zm_196 (v := (0, (-2))) rfl ?_
      rw [← hQ]; exact ⟨_, rfl, by omega, by omega, hI0, hF0⟩
    · intro h3; omega
  · intro h4
    refine zw_5 zr_140_6 rfl ?_
    refine zw_6 zr_140_7 rfl ?_
    refine zw_39_2 zr_140_9 zr_140_10 ?_ ?_
    · intro h5
      refine zw_push zr_140_17 ?_
      refine zw_R zr_140_18 (by decide) zm_140 (v := (0, 0)) (zRetB (by omega)) ?_
      rw [← hQ2]
      show zW E (d - 1) 148 9 [(0, a0)] [(0, 0)] m0 Q1
      refine zw_R zr_148_9 (by decide) zm_148 (v := (0, 0)) (zRetB (by omega)) ?_
      rw [← hQ1]
      show zW E (d) 196 4 [(2, 69), (0, a0), (0, a1), (0, a2), (9, 0), (9, 0), (9, 0)] [(0, 0)] m0 Q
      refine zw_40_1 zr_196_4 ?_ ?_
      · intro h6
        refine zw_push zr_196_36 ?_
        refine zw_R zr_196_38 (by decide) zm_196 (v := (0, (-2))) rfl ?_
        rw [← hQ]; exact ⟨_, rfl, by omega, by omega, hI0, hF0⟩
      · intro h7; omega
    · intro h8
      refine zw_push zr_140_13 ?_
      refine zw_42 zr_140_14 ?_
      refine zw_R zr_140_18 (by decide) zm_140 (v := (0, 1)) (zRetB (by omega)) ?_
      rw [← hQ2]
      show zW E (d - 1) 148 9 [(0, a0)] [(0, 1)] m0 Q1
      refine zw_R zr_148_9 (by decide) zm_148 (v := (0, 1)) (zRetB (by omega)) ?_
      rw [← hQ1]
      show zW E (d) 196 4 [(2, 69), (0, a0), (0, a1), (0, a2), (9, 0), (9, 0), (9, 0)] [(0, 1)] m0 Q
      refine zw_40_1 zr_196_4 ?_ ?_
      · intro h9; omega
      · intro h10
        refine zw_3 zr_196_7 rfl ?_
        refine zw_36 zr_196_8 ?_
        refine zw_push zr_196_9 ?_
        refine zw_push zr_196_10 ?_
        refine zw_C zr_196_13 (Or.inr rfl) zm_140 rfl rfl ⟨Nat.le_of_ble_eq_true rfl, Nat.le_of_ble_eq_true rfl, Nat.le_of_ble_eq_true rfl, rfl, by decide⟩ (by omega) (P := (fun v m' => zW E (d) 196 16 [(2, 69), (0, a0), (0, a1), (0, a2), (9, 0), (9, 0), (9, 0)] (if v.1 = 9 then [] else v :: []) m' Q)) ?_ (fun _ _ h => h)
        generalize hQ1 : (fun v m' => zW E (d) 196 16 [(2, 69), (0, a0), (0, a1), (0, a2), (9, 0), (9, 0), (9, 0)] (if v.1 = 9 then [] else v :: []) m' Q) = Q1
        show zW E (d - 1) 140 0 [(1, a1), (9, 0), (1, 0), (9, 0), (1, 2), (9, 0)] [] m0 Q1
        refine zw_5 zr_140_0 rfl ?_
        refine zw_5 zr_140_1 rfl ?_
        refine zw_39_0 zr_140_2 zr_140_3 ?_ ?_
        · intro h11
          refine zw_push zr_140_17 ?_
          refine zw_R zr_140_18 (by decide) zm_140 (v := (0, 0)) (zRetB (by omega)) ?_
          rw [← hQ1]
          show zW E (d) 196 16 [(2, 69), (0, a0), (0, a1), (0, a2), (9, 0), (9, 0), (9, 0)] [(0, 0)] m0 Q
          refine zw_40_1 zr_196_16 ?_ ?_
          · intro h12
            refine zw_push zr_196_36 ?_
            refine zw_R zr_196_38 (by decide) zm_196 (v := (0, (-2))) rfl ?_
            rw [← hQ]; exact ⟨_, rfl, by omega, by omega, hI0, hF0⟩
          · intro h13; omega
        · intro h14
          refine zw_5 zr_140_6 rfl ?_
          refine zw_6 zr_140_7 rfl ?_
          refine zw_39_2 zr_140_9 zr_140_10 ?_ ?_
          · intro h15
            refine zw_push zr_140_17 ?_
            refine zw_R zr_140_18 (by decide) zm_140 (v := (0, 0)) (zRetB (by omega)) ?_
            rw [← hQ1]
            show zW E (d) 196 16 [(2, 69), (0, a0), (0, a1), (0, a2), (9, 0), (9, 0), (9, 0)] [(0, 0)] m0 Q
            refine zw_40_1 zr_196_16 ?_ ?_
            · intro h16
              refine zw_push zr_196_36 ?_
              refine zw_R zr_196_38 (by decide) zm_196 (v := (0, (-2))) rfl ?_
              rw [← hQ]; exact ⟨_, rfl, by omega, by omega, hI0, hF0⟩
            · intro h17; omega
          · intro h18
            refine zw_push zr_140_13 ?_
            refine zw_42 zr_140_14 ?_
            refine zw_R zr_140_18 (by decide) zm_140 (v := (0, 1)) (zRetB (by omega)) ?_
            rw [← hQ1]
            show zW E (d) 196 16 [(2, 69), (0, a0), (0, a1), (0, a2), (9, 0), (9, 0), (9, 0)] [(0, 1)] m0 Q
            refine zw_40_1 zr_196_16 ?_ ?_
            · intro h19; omega
            · intro h20
              refine zw_3 zr_196_19 rfl ?_
              refine zw_push zr_196_20 ?_
              refine zw_41_4 zr_196_21 ?_ ?_
              · intro h21
                refine zw_3 zr_196_39 rfl ?_
                refine zw_push zr_196_40 ?_
                refine zw_41_4 zr_196_41 ?_ ?_
                · intro h22
                  refine zw_push zr_196_50 ?_
                  refine zw_10 (L' := [(2, 69), (0, a0), (0, a1), (0, a2), (0, (-1)), (9, 0), (9, 0)]) zr_196_51 (Nat.le_of_ble_eq_true rfl) rfl ?_
                  refine zw_push zr_196_53 ?_
                  refine zw_10 (L' := [(2, 69), (0, a0), (0, a1), (0, a2), (0, (-1)), (0, 0), (9, 0)]) zr_196_54 (Nat.le_of_ble_eq_true rfl) rfl ?_
                  refine zw_push zr_196_56 ?_
                  refine zw_10 (L' := [(2, 69), (0, a0), (0, a1), (0, a2), (0, (-1)), (0, 0), (0, 0)]) zr_196_57 (Nat.le_of_ble_eq_true rfl) rfl ?_
                  have lp59_27 : ∀ (nlp59_27 : Nat) (i23 i24 i25 : Int) (m26 : zM), zInv m26 → zFr W_196 m0 m26 → (-1) ≤ i23 → i23 ≤ 9 → (-2147483648) ≤ i24 → i24 ≤ 2147483647 → 0 ≤ i25 → i25 ≤ 10 → (10 - i25).toNat < nlp59_27 → zW E (d) 196 59 [(2, 69), (0, a0), (0, a1), (0, a2), (0, i23), (0, i24), (0, i25)] [] m26 Q := by
                    intro nlp59_27
                    induction nlp59_27 with
                    | zero =>
                      intros
                      exact absurd (by assumption : _ < 0) (Nat.not_lt_zero _)
                    | succ nlp59_27 ihlp59_27 =>
                      intro i23 i24 i25 m26 hIm26 hFm26 li23 ui23 li24 ui24 li25 ui25 hmlp59_27
                      refine zw_4 zr_196_59 rfl ?_
                      refine zw_7 zr_196_61 rfl ?_
                      refine zw_C zr_196_62 (Or.inl rfl) zm_141 rfl rfl ⟨Nat.le_of_ble_eq_true rfl, Nat.le_of_ble_eq_true rfl, Nat.le_of_ble_eq_true rfl, rfl, by decide⟩ (by omega) (P := (fun v m' => zW E (d) 196 65 [(2, 69), (0, a0), (0, a1), (0, a2), (0, i23), (0, i24), (0, i25)] (if v.1 = 9 then [(0, i25)] else v :: [(0, i25)]) m' Q)) ?_ (fun _ _ h => h)
                      generalize hQ1 : (fun v m' => zW E (d) 196 65 [(2, 69), (0, a0), (0, a1), (0, a2), (0, i23), (0, i24), (0, i25)] (if v.1 = 9 then [(0, i25)] else v :: [(0, i25)]) m' Q) = Q1
                      show zW E (d - 1) 141 0 [(2, 69)] [] m26 Q1
                      refine zw_7 zr_141_0 rfl ?_
                      refine zw_46r (s := 70) zr_141_1 rfl rfl rfl rfl ?_
                      refine zw_push zr_141_4 ?_
                      obtain ⟨f29, ef29⟩ : ∃ v, m26 70 822 = v := ⟨_, rfl⟩
                      have bf29 : 0 ≤ m26 70 822 ∧ m26 70 822 ≤ 10 := ib_70_players hIm26 (by omega)
                      rw [ef29] at bf29
                      refine zw_48k (c := 70) (len := 826) zr_141_7 rfl rfl (by omega) (by omega) (show (822 : Int).toNat = 822 by omega) ef29 ?_
                      refine zw_R zr_141_8 (by decide) zm_141 (v := (0, f29)) rfl ?_
                      rw [← hQ1]
                      show zW E (d) 196 65 [(2, 69), (0, a0), (0, a1), (0, a2), (0, i23), (0, i24), (0, i25)] [(0, f29), (0, i25)] m26 Q
                      refine zw_41_3 zr_196_65 ?_ ?_
                      · intro h30
                        refine zw_4 zr_196_118 rfl ?_
                        refine zw_R zr_196_120 (by decide) zm_196 (v := (0, i23)) rfl ?_
                        rw [← hQ]; exact ⟨_, rfl, by omega, by omega, hIm26, hFm26⟩
                      · intro h31
                        refine zw_7 zr_196_68 rfl ?_
                        refine zw_3 zr_196_69 rfl ?_
                        refine zw_4 zr_196_70 rfl ?_
                        refine zw_3 zr_196_72 rfl ?_
                        refine zw_40_4 zr_196_73 ?_ ?_
                        · intro h32
                          refine zw_3 zr_196_80 rfl ?_
                          refine zw_C zr_196_81 (Or.inl rfl) zm_194 rfl rfl ⟨Nat.le_of_ble_eq_true rfl, Nat.le_of_ble_eq_true rfl, Nat.le_of_ble_eq_true rfl, rfl, by decide⟩ (by omega) (th_194 (d := d - 1) (by omega) hIm26 (a0 := a0) (a1 := i25) (a2 := a2)      (by omega) (by omega) (by omega) ) ?_
                          rintro _ m33 ⟨r34, rfl, hr34a, hr34b, hIm33, gm33⟩
                          have hFm33 : zFr W_196 m0 m33 := hFm26.trans gm33 rfl
                          have km33_70_822 : m33 70 822 = f29 := (gm33 70 822 rfl).trans ef29
                          show zW E (d) 196 84 [(2, 69), (0, a0), (0, a1), (0, a2), (0, i23), (0, i24), (0, i25)] [(0, r34)] m33 Q
                          refine zw_40_1 zr_196_84 ?_ ?_
                          · intro h35
                            refine zw_15 (c := 1) (L' := [(2, 69), (0, a0), (0, a1), (0, a2), (0, i23), (0, i24), (0, (i25 + 1))]) zr_196_112 rfl (by decide) (by omega) rfl ?_
                            refine zw_42 zr_196_115 ?_
                            exact zw_less (L := [(2, 69), (0, a0), (0, a1), (0, a2), (0, i23), (0, i24), (0, (i25 + 1))]) ⟨Or.inr rfl, Or.inr rfl, Or.inr rfl, Or.inr rfl, Or.inr rfl, Or.inr rfl, Or.inr rfl, trivial⟩ (ihlp59_27 (i23) (i24) ((i25 + 1)) m33 hIm33 hFm33   (by omega) (by omega) (by omega) (by omega) (by omega) (by omega)  (by omega))
                          · intro h36
                            refine zw_4 zr_196_87 rfl ?_
                            refine zw_push zr_196_89 ?_
                            refine zw_41_1 zr_196_90 ?_ ?_
                            · intro h37
                              refine zw_4 zr_196_102 rfl ?_
                              refine zw_10 (L' := [(2, 69), (0, a0), (0, a1), (0, a2), (0, i25), (0, i24), (0, i25)]) zr_196_104 (Nat.le_of_ble_eq_true rfl) rfl ?_
                              refine zw_7 zr_196_106 rfl ?_
                              obtain ⟨f38, ef38⟩ : ∃ v, m33 69 24 = v := ⟨_, rfl⟩
                              have bf38 := hIm33.fi (c := 69) (k := 24) rfl
                              rw [ef38] at bf38
                              refine zw_46i zr_196_107 ef38 rfl rfl rfl ?_
                              refine zw_10 (L' := [(2, 69), (0, a0), (0, a1), (0, a2), (0, i25), (0, f38), (0, i25)]) zr_196_110 (Nat.le_of_ble_eq_true rfl) rfl ?_
                              refine zw_15 (c := 1) (L' := [(2, 69), (0, a0), (0, a1), (0, a2), (0, i25), (0, f38), (0, (i25 + 1))]) zr_196_112 rfl (by decide) (by omega) rfl ?_
                              refine zw_42 zr_196_115 ?_
                              exact zw_less (L := [(2, 69), (0, a0), (0, a1), (0, a2), (0, i25), (0, f38), (0, (i25 + 1))]) ⟨Or.inr rfl, Or.inr rfl, Or.inr rfl, Or.inr rfl, Or.inr rfl, Or.inr rfl, Or.inr rfl, trivial⟩ (ihlp59_27 (i25) (f38) ((i25 + 1)) m33 hIm33 hFm33   (by omega) (by omega) (by omega) (by omega) (by omega) (by omega)  (by omega))
                            · intro h39
                              refine zw_7 zr_196_93 rfl ?_
                              obtain ⟨f40, ef40⟩ : ∃ v, m33 69 24 = v := ⟨_, rfl⟩
                              have bf40 := hIm33.fi (c := 69) (k := 24) rfl
                              rw [ef40] at bf40
                              refine zw_46i zr_196_94 ef40 rfl rfl rfl ?_
                              refine zw_4 zr_196_97 rfl ?_
                              refine zw_41_5 zr_196_99 ?_ ?_
                              · intro h41
                                refine zw_15 (c := 1) (L' := [(2, 69), (0, a0), (0, a1), (0, a2), (0, i23), (0, i24), (0, (i25 + 1))]) zr_196_112 rfl (by decide) (by omega) rfl ?_
                                refine zw_42 zr_196_115 ?_
                                exact zw_less (L := [(2, 69), (0, a0), (0, a1), (0, a2), (0, i23), (0, i24), (0, (i25 + 1))]) ⟨Or.inr rfl, Or.inr rfl, Or.inr rfl, Or.inr rfl, Or.inr rfl, Or.inr rfl, Or.inr rfl, trivial⟩ (ihlp59_27 (i23) (i24) ((i25 + 1)) m33 hIm33 hFm33   (by omega) (by omega) (by omega) (by omega) (by omega) (by omega)  (by omega))
                              · intro h42
                                refine zw_4 zr_196_102 rfl ?_
                                refine zw_10 (L' := [(2, 69), (0, a0), (0, a1), (0, a2), (0, i25), (0, i24), (0, i25)]) zr_196_104 (Nat.le_of_ble_eq_true rfl) rfl ?_
                                refine zw_7 zr_196_106 rfl ?_
                                refine zw_46i zr_196_107 ef40 rfl rfl rfl ?_
                                refine zw_10 (L' := [(2, 69), (0, a0), (0, a1), (0, a2), (0, i25), (0, f40), (0, i25)]) zr_196_110 (Nat.le_of_ble_eq_true rfl) rfl ?_
                                refine zw_15 (c := 1) (L' := [(2, 69), (0, a0), (0, a1), (0, a2), (0, i25), (0, f40), (0, (i25 + 1))]) zr_196_112 rfl (by decide) (by omega) rfl ?_
                                refine zw_42 zr_196_115 ?_
                                exact zw_less (L := [(2, 69), (0, a0), (0, a1), (0, a2), (0, i25), (0, f40), (0, (i25 + 1))]) ⟨Or.inr rfl, Or.inr rfl, Or.inr rfl, Or.inr rfl, Or.inr rfl, Or.inr rfl, Or.inr rfl, trivial⟩ (ihlp59_27 (i25) (f40) ((i25 + 1)) m33 hIm33 hFm33   (by omega) (by omega) (by omega) (by omega) (by omega) (by omega)  (by omega))
                        · intro h43
                          refine zw_push zr_196_76 ?_
                          refine zw_42 zr_196_77 ?_
                          refine zw_C zr_196_81 (Or.inl rfl) zm_194 rfl rfl ⟨Nat.le_of_ble_eq_true rfl, Nat.le_of_ble_eq_true rfl, Nat.le_of_ble_eq_true rfl, rfl, by decide⟩ (by omega) (th_194 (d := d - 1) (by omega) hIm26 (a0 := a0) (a1 := i25) (a2 := 1)      (by omega) (by omega) (by omega) ) ?_
                          rintro _ m44 ⟨r45, rfl, hr45a, hr45b, hIm44, gm44⟩
                          have hFm44 : zFr W_196 m0 m44 := hFm26.trans gm44 rfl
                          have km44_70_822 : m44 70 822 = f29 := (gm44 70 822 rfl).trans ef29
                          show zW E (d) 196 84 [(2, 69), (0, a0), (0, a1), (0, a2), (0, i23), (0, i24), (0, i25)] [(0, r45)] m44 Q
                          refine zw_40_1 zr_196_84 ?_ ?_
                          · intro h46
                            refine zw_15 (c := 1) (L' := [(2, 69), (0, a0), (0, a1), (0, a2), (0, i23), (0, i24), (0, (i25 + 1))]) zr_196_112 rfl (by decide) (by omega) rfl ?_
                            refine zw_42 zr_196_115 ?_
                            exact zw_less (L := [(2, 69), (0, a0), (0, a1), (0, a2), (0, i23), (0, i24), (0, (i25 + 1))]) ⟨Or.inr rfl, Or.inr rfl, Or.inr rfl, Or.inr rfl, Or.inr rfl, Or.inr rfl, Or.inr rfl, trivial⟩ (ihlp59_27 (i23) (i24) ((i25 + 1)) m44 hIm44 hFm44   (by omega) (by omega) (by omega) (by omega) (by omega) (by omega)  (by omega))
                          · intro h47
                            refine zw_4 zr_196_87 rfl ?_
                            refine zw_push zr_196_89 ?_
                            refine zw_41_1 zr_196_90 ?_ ?_
                            · intro h48
                              refine zw_4 zr_196_102 rfl ?_
                              refine zw_10 (L' := [(2, 69), (0, a0), (0, a1), (0, a2), (0, i25), (0, i24), (0, i25)]) zr_196_104 (Nat.le_of_ble_eq_true rfl) rfl ?_
                              refine zw_7 zr_196_106 rfl ?_
                              obtain ⟨f49, ef49⟩ : ∃ v, m44 69 24 = v := ⟨_, rfl⟩
                              have bf49 := hIm44.fi (c := 69) (k := 24) rfl
                              rw [ef49] at bf49
                              refine zw_46i zr_196_107 ef49 rfl rfl rfl ?_
                              refine zw_10 (L' := [(2, 69), (0, a0), (0, a1), (0, a2), (0, i25), (0, f49), (0, i25)]) zr_196_110 (Nat.le_of_ble_eq_true rfl) rfl ?_
                              refine zw_15 (c := 1) (L' := [(2, 69), (0, a0), (0, a1), (0, a2), (0, i25), (0, f49), (0, (i25 + 1))]) zr_196_112 rfl (by decide) (by omega) rfl ?_
                              refine zw_42 zr_196_115 ?_
                              exact zw_less (L := [(2, 69), (0, a0), (0, a1), (0, a2), (0, i25), (0, f49), (0, (i25 + 1))]) ⟨Or.inr rfl, Or.inr rfl, Or.inr rfl, Or.inr rfl, Or.inr rfl, Or.inr rfl, Or.inr rfl, trivial⟩ (ihlp59_27 (i25) (f49) ((i25 + 1)) m44 hIm44 hFm44   (by omega) (by omega) (by omega) (by omega) (by omega) (by omega)  (by omega))
                            · intro h50
                              refine zw_7 zr_196_93 rfl ?_
                              obtain ⟨f51, ef51⟩ : ∃ v, m44 69 24 = v := ⟨_, rfl⟩
                              have bf51 := hIm44.fi (c := 69) (k := 24) rfl
                              rw [ef51] at bf51
                              refine zw_46i zr_196_94 ef51 rfl rfl rfl ?_
                              refine zw_4 zr_196_97 rfl ?_
                              refine zw_41_5 zr_196_99 ?_ ?_
                              · intro h52
                                refine zw_15 (c := 1) (L' := [(2, 69), (0, a0), (0, a1), (0, a2), (0, i23), (0, i24), (0, (i25 + 1))]) zr_196_112 rfl (by decide) (by omega) rfl ?_
                                refine zw_42 zr_196_115 ?_
                                exact zw_less (L := [(2, 69), (0, a0), (0, a1), (0, a2), (0, i23), (0, i24), (0, (i25 + 1))]) ⟨Or.inr rfl, Or.inr rfl, Or.inr rfl, Or.inr rfl, Or.inr rfl, Or.inr rfl, Or.inr rfl, trivial⟩ (ihlp59_27 (i23) (i24) ((i25 + 1)) m44 hIm44 hFm44   (by omega) (by omega) (by omega) (by omega) (by omega) (by omega)  (by omega))
                              · intro h53
                                refine zw_4 zr_196_102 rfl ?_
                                refine zw_10 (L' := [(2, 69), (0, a0), (0, a1), (0, a2), (0, i25), (0, i24), (0, i25)]) zr_196_104 (Nat.le_of_ble_eq_true rfl) rfl ?_
                                refine zw_7 zr_196_106 rfl ?_
                                refine zw_46i zr_196_107 ef51 rfl rfl rfl ?_
                                refine zw_10 (L' := [(2, 69), (0, a0), (0, a1), (0, a2), (0, i25), (0, f51), (0, i25)]) zr_196_110 (Nat.le_of_ble_eq_true rfl) rfl ?_
                                refine zw_15 (c := 1) (L' := [(2, 69), (0, a0), (0, a1), (0, a2), (0, i25), (0, f51), (0, (i25 + 1))]) zr_196_112 rfl (by decide) (by omega) rfl ?_
                                refine zw_42 zr_196_115 ?_
                                exact zw_less (L := [(2, 69), (0, a0), (0, a1), (0, a2), (0, i25), (0, f51), (0, (i25 + 1))]) ⟨Or.inr rfl, Or.inr rfl, Or.inr rfl, Or.inr rfl, Or.inr rfl, Or.inr rfl, Or.inr rfl, trivial⟩ (ihlp59_27 (i25) (f51) ((i25 + 1)) m44 hIm44 hFm44   (by omega) (by omega) (by omega) (by omega) (by omega) (by omega)  (by omega))
                  exact lp59_27 _ ((-1)) (0) (0) m0 hI0 hF0   (by omega) (by omega) (by omega) (by omega) (by omega) (by omega)  (Nat.lt_succ_self _)
                · intro h54
                  refine zw_7 zr_196_44 rfl ?_
                  refine zw_3 zr_196_45 rfl ?_
                  refine zw_C zr_196_46 (Or.inl rfl) zm_195 rfl rfl ⟨Nat.le_of_ble_eq_true rfl, Nat.le_of_ble_eq_true rfl, Nat.le_of_ble_eq_true rfl, rfl, by decide⟩ (by omega) (th_195 (d := d - 1) (by omega) hI0 (a0 := a0)   (F70 := m0 70)  rfl (by omega) ) ?_
                  rintro _ m55 ⟨r56, rfl, hr56a, hr56b, hIm55, gm55⟩
                  have hFm55 : zFr W_196 m0 m55 := hF0.trans gm55 rfl
                  show zW E (d) 196 49 [(2, 69), (0, a0), (0, a1), (0, a2), (9, 0), (9, 0), (9, 0)] [(0, r56)] m55 Q
                  refine zw_R zr_196_49 (by decide) zm_196 (v := (0, r56)) rfl ?_
                  rw [← hQ]; exact ⟨_, rfl, by omega, by omega, hIm55, hFm55⟩
              · intro h57
                refine zw_3 zr_196_24 rfl ?_
                refine zw_36 zr_196_25 ?_
                refine zw_push zr_196_26 ?_
                refine zw_push zr_196_27 ?_
                refine zw_C zr_196_30 (Or.inr rfl) zm_140 rfl rfl ⟨Nat.le_of_ble_eq_true rfl, Nat.le_of_ble_eq_true rfl, Nat.le_of_ble_eq_true rfl, rfl, by decide⟩ (by omega) (P := (fun v m' => zW E (d) 196 33 [(2, 69), (0, a0), (0, a1), (0, a2), (9, 0), (9, 0), (9, 0)] (if v.1 = 9 then [] else v :: []) m' Q)) ?_ (fun _ _ h => h)
                generalize hQ1 : (fun v m' => zW E (d) 196 33 [(2, 69), (0, a0), (0, a1), (0, a2), (9, 0), (9, 0), (9, 0)] (if v.1 = 9 then [] else v :: []) m' Q) = Q1
                show zW E (d - 1) 140 0 [(1, a2), (9, 0), (1, 1), (9, 0), (1, 9), (9, 0)] [] m0 Q1
                refine zw_5 zr_140_0 rfl ?_
                refine zw_5 zr_140_1 rfl ?_
                refine zw_39_0 zr_140_2 zr_140_3 ?_ ?_
                · intro h58
                  refine zw_push zr_140_17 ?_
                  refine zw_R zr_140_18 (by decide) zm_140 (v := (0, 0)) (zRetB (by omega)) ?_
                  rw [← hQ1]
                  show zW E (d) 196 33 [(2, 69), (0, a0), (0, a1), (0, a2), (9, 0), (9, 0), (9, 0)] [(0, 0)] m0 Q
                  refine zw_40_4 zr_196_33 ?_ ?_
                  · intro h59; omega
                  · intro h60
                    refine zw_push zr_196_36 ?_
                    refine zw_R zr_196_38 (by decide) zm_196 (v := (0, (-2))) rfl ?_
                    rw [← hQ]; exact ⟨_, rfl, by omega, by omega, hI0, hF0⟩
                · intro h61
                  refine zw_5 zr_140_6 rfl ?_
                  refine zw_6 zr_140_7 rfl ?_
                  refine zw_39_2 zr_140_9 zr_140_10 ?_ ?_
                  · intro h62
                    refine zw_push zr_140_17 ?_
                    refine zw_R zr_140_18 (by decide) zm_140 (v := (0, 0)) (zRetB (by omega)) ?_
                    rw [← hQ1]
                    show zW E (d) 196 33 [(2, 69), (0, a0), (0, a1), (0, a2), (9, 0), (9, 0), (9, 0)] [(0, 0)] m0 Q
                    refine zw_40_4 zr_196_33 ?_ ?_
                    · intro h63; omega
                    · intro h64
                      refine zw_push zr_196_36 ?_
                      refine zw_R zr_196_38 (by decide) zm_196 (v := (0, (-2))) rfl ?_
                      rw [← hQ]; exact ⟨_, rfl, by omega, by omega, hI0, hF0⟩
                  · intro h65
                    refine zw_push zr_140_13 ?_
                    refine zw_42 zr_140_14 ?_
                    refine zw_R zr_140_18 (by decide) zm_140 (v := (0, 1)) (zRetB (by omega)) ?_
                    rw [← hQ1]
                    show zW E (d) 196 33 [(2, 69), (0, a0), (0, a1), (0, a2), (9, 0), (9, 0), (9, 0)] [(0, 1)] m0 Q
                    refine zw_40_4 zr_196_33 ?_ ?_
                    · intro h66
                      refine zw_3 zr_196_39 rfl ?_
                      refine zw_push zr_196_40 ?_
                      refine zw_41_4 zr_196_41 ?_ ?_
                      · intro h67
                        refine zw_push zr_196_50 ?_
                        refine zw_10 (L' := [(2, 69), (0, a0), (0, a1), (0, a2), (0, (-1)), (9, 0), (9, 0)]) zr_196_51 (Nat.le_of_ble_eq_true rfl) rfl ?_
                        refine zw_push zr_196_53 ?_
                        refine zw_10 (L' := [(2, 69), (0, a0), (0, a1), (0, a2), (0, (-1)), (0, 0), (9, 0)]) zr_196_54 (Nat.le_of_ble_eq_true rfl) rfl ?_
                        refine zw_push zr_196_56 ?_
                        refine zw_10 (L' := [(2, 69), (0, a0), (0, a1), (0, a2), (0, (-1)), (0, 0), (0, 0)]) zr_196_57 (Nat.le_of_ble_eq_true rfl) rfl ?_
                        have lp59_72 : ∀ (nlp59_72 : Nat) (i68 i69 i70 : Int) (m71 : zM), zInv m71 → zFr W_196 m0 m71 → (-1) ≤ i68 → i68 ≤ 9 → (-2147483648) ≤ i69 → i69 ≤ 2147483647 → 0 ≤ i70 → i70 ≤ 10 → (10 - i70).toNat < nlp59_72 → zW E (d) 196 59 [(2, 69), (0, a0), (0, a1), (0, a2), (0, i68), (0, i69), (0, i70)] [] m71 Q := by
                          intro nlp59_72
                          induction nlp59_72 with
                          | zero =>
                            intros
                            exact absurd (by assumption : _ < 0) (Nat.not_lt_zero _)
                          | succ nlp59_72 ihlp59_72 =>
                            intro i68 i69 i70 m71 hIm71 hFm71 li68 ui68 li69 ui69 li70 ui70 hmlp59_72
                            refine zw_4 zr_196_59 rfl ?_
                            refine zw_7 zr_196_61 rfl ?_
                            refine zw_C zr_196_62 (Or.inl rfl) zm_141 rfl rfl ⟨Nat.le_of_ble_eq_true rfl, Nat.le_of_ble_eq_true rfl, Nat.le_of_ble_eq_true rfl, rfl, by decide⟩ (by omega) (P := (fun v m' => zW E (d) 196 65 [(2, 69), (0, a0), (0, a1), (0, a2), (0, i68), (0, i69), (0, i70)] (if v.1 = 9 then [(0, i70)] else v :: [(0, i70)]) m' Q)) ?_ (fun _ _ h => h)
                            generalize hQ1 : (fun v m' => zW E (d) 196 65 [(2, 69), (0, a0), (0, a1), (0, a2), (0, i68), (0, i69), (0, i70)] (if v.1 = 9 then [(0, i70)] else v :: [(0, i70)]) m' Q) = Q1
                            show zW E (d - 1) 141 0 [(2, 69)] [] m71 Q1
                            refine zw_7 zr_141_0 rfl ?_
                            refine zw_46r (s := 70) zr_141_1 rfl rfl rfl rfl ?_
                            refine zw_push zr_141_4 ?_
                            obtain ⟨f74, ef74⟩ : ∃ v, m71 70 822 = v := ⟨_, rfl⟩
                            have bf74 : 0 ≤ m71 70 822 ∧ m71 70 822 ≤ 10 := ib_70_players hIm71 (by omega)
                            rw [ef74] at bf74
                            refine zw_48k (c := 70) (len := 826) zr_141_7 rfl rfl (by omega) (by omega) (show (822 : Int).toNat = 822 by omega) ef74 ?_
                            refine zw_R zr_141_8 (by decide) zm_141 (v := (0, f74)) rfl ?_
                            rw [← hQ1]
                            show zW E (d) 196 65 [(2, 69), (0, a0), (0, a1), (0, a2), (0, i68), (0, i69), (0, i70)] [(0, f74), (0, i70)] m71 Q
                            refine zw_41_3 zr_196_65 ?_ ?_
                            · intro h75
                              refine zw_4 zr_196_118 rfl ?_
                              refine zw_R zr_196_120 (by decide) zm_196 (v := (0, i68)) rfl ?_
                              rw [← hQ]; exact ⟨_, rfl, by omega, by omega, hIm71, hFm71⟩
                            · intro h76
                              refine zw_7 zr_196_68 rfl ?_
                              refine zw_3 zr_196_69 rfl ?_
                              refine zw_4 zr_196_70 rfl ?_
                              refine zw_3 zr_196_72 rfl ?_
                              refine zw_40_4 zr_196_73 ?_ ?_
                              · intro h77
                                refine zw_3 zr_196_80 rfl ?_
                                refine zw_C zr_196_81 (Or.inl rfl) zm_194 rfl rfl ⟨Nat.le_of_ble_eq_true rfl, Nat.le_of_ble_eq_true rfl, Nat.le_of_ble_eq_true rfl, rfl, by decide⟩ (by omega) (th_194 (d := d - 1) (by omega) hIm71 (a0 := a0) (a1 := i70) (a2 := a2)      (by omega) (by omega) (by omega) ) ?_
                                rintro _ m78 ⟨r79, rfl, hr79a, hr79b, hIm78, gm78⟩
                                have hFm78 : zFr W_196 m0 m78 := hFm71.trans gm78 rfl
                                have km78_70_822 : m78 70 822 = f74 := (gm78 70 822 rfl).trans ef74
                                show zW E (d) 196 84 [(2, 69), (0, a0), (0, a1), (0, a2), (0, i68), (0, i69), (0, i70)] [(0, r79)] m78 Q
                                refine zw_40_1 zr_196_84 ?_ ?_
                                · intro h80
                                  refine zw_15 (c := 1) (L' := [(2, 69), (0, a0), (0, a1), (0, a2), (0, i68), (0, i69), (0, (i70 + 1))]) zr_196_112 rfl (by decide) (by omega) rfl ?_
                                  refine zw_42 zr_196_115 ?_
                                  exact zw_less (L := [(2, 69), (0, a0), (0, a1), (0, a2), (0, i68), (0, i69), (0, (i70 + 1))]) ⟨Or.inr rfl, Or.inr rfl, Or.inr rfl, Or.inr rfl, Or.inr rfl, Or.inr rfl, Or.inr rfl, trivial⟩ (ihlp59_72 (i68) (i69) ((i70 + 1)) m78 hIm78 hFm78   (by omega) (by omega) (by omega) (by omega) (by omega) (by omega)  (by omega))
                                · intro h81
                                  refine zw_4 zr_196_87 rfl ?_
                                  refine zw_push zr_196_89 ?_
                                  refine zw_41_1 zr_196_90 ?_ ?_
                                  · intro h82
                                    refine zw_4 zr_196_102 rfl ?_
                                    refine zw_10 (L' := [(2, 69), (0, a0), (0, a1), (0, a2), (0, i70), (0, i69), (0, i70)]) zr_196_104 (Nat.le_of_ble_eq_true rfl) rfl ?_
                                    refine zw_7 zr_196_106 rfl ?_
                                    obtain ⟨f83, ef83⟩ : ∃ v, m78 69 24 = v := ⟨_, rfl⟩
                                    have bf83 := hIm78.fi (c := 69) (k := 24) rfl
                                    rw [ef83] at bf83
                                    refine zw_46i zr_196_107 ef83 rfl rfl rfl ?_
                                    refine zw_10 (L' := [(2, 69), (0, a0), (0, a1), (0, a2), (0, i70), (0, f83), (0, i70)]) zr_196_110 (Nat.le_of_ble_eq_true rfl) rfl ?_
                                    refine zw_15 (c := 1) (L' := [(2, 69), (0, a0), (0, a1), (0, a2), (0, i70), (0, f83), (0, (i70 + 1))]) zr_196_112 rfl (by decide) (by omega) rfl ?_
                                    refine zw_42 zr_196_115 ?_
                                    exact zw_less (L := [(2, 69), (0, a0), (0, a1), (0, a2), (0, i70), (0, f83), (0, (i70 + 1))]) ⟨Or.inr rfl, Or.inr rfl, Or.inr rfl, Or.inr rfl, Or.inr rfl, Or.inr rfl, Or.inr rfl, trivial⟩ (ihlp59_72 (i70) (f83) ((i70 + 1)) m78 hIm78 hFm78   (by omega) (by omega) (by omega) (by omega) (by omega) (by omega)  (by omega))
                                  · intro h84
                                    refine zw_7 zr_196_93 rfl ?_
                                    obtain ⟨f85, ef85⟩ : ∃ v, m78 69 24 = v := ⟨_, rfl⟩
                                    have bf85 := hIm78.fi (c := 69) (k := 24) rfl
                                    rw [ef85] at bf85
                                    refine zw_46i zr_196_94 ef85 rfl rfl rfl ?_
                                    refine zw_4 zr_196_97 rfl ?_
                                    refine zw_41_5 zr_196_99 ?_ ?_
                                    · intro h86
                                      refine zw_15 (c := 1) (L' := [(2, 69), (0, a0), (0, a1), (0, a2), (0, i68), (0, i69), (0, (i70 + 1))]) zr_196_112 rfl (by decide) (by omega) rfl ?_
                                      refine zw_42 zr_196_115 ?_
                                      exact zw_less (L := [(2, 69), (0, a0), (0, a1), (0, a2), (0, i68), (0, i69), (0, (i70 + 1))]) ⟨Or.inr rfl, Or.inr rfl, Or.inr rfl, Or.inr rfl, Or.inr rfl, Or.inr rfl, Or.inr rfl, trivial⟩ (ihlp59_72 (i68) (i69) ((i70 + 1)) m78 hIm78 hFm78   (by omega) (by omega) (by omega) (by omega) (by omega) (by omega)  (by omega))
                                    · intro h87
                                      refine zw_4 zr_196_102 rfl ?_
                                      refine zw_10 (L' := [(2, 69), (0, a0), (0, a1), (0, a2), (0, i70), (0, i69), (0, i70)]) zr_196_104 (Nat.le_of_ble_eq_true rfl) rfl ?_
                                      refine zw_7 zr_196_106 rfl ?_
                                      refine zw_46i zr_196_107 ef85 rfl rfl rfl ?_
                                      refine zw_10 (L' := [(2, 69), (0, a0), (0, a1), (0, a2), (0, i70), (0, f85), (0, i70)]) zr_196_110 (Nat.le_of_ble_eq_true rfl) rfl ?_
                                      refine zw_15 (c := 1) (L' := [(2, 69), (0, a0), (0, a1), (0, a2), (0, i70), (0, f85), (0, (i70 + 1))]) zr_196_112 rfl (by decide) (by omega) rfl ?_
                                      refine zw_42 zr_196_115 ?_
                                      exact zw_less (L := [(2, 69), (0, a0), (0, a1), (0, a2), (0, i70), (0, f85), (0, (i70 + 1))]) ⟨Or.inr rfl, Or.inr rfl, Or.inr rfl, Or.inr rfl, Or.inr rfl, Or.inr rfl, Or.inr rfl, trivial⟩ (ihlp59_72 (i70) (f85) ((i70 + 1)) m78 hIm78 hFm78   (by omega) (by omega) (by omega) (by omega) (by omega) (by omega)  (by omega))
                              · intro h88; omega
                        exact lp59_72 _ ((-1)) (0) (0) m0 hI0 hF0   (by omega) (by omega) (by omega) (by omega) (by omega) (by omega)  (Nat.lt_succ_self _)
                      · intro h89; omega
                    · intro h90; omega

abbrev W_4_65 : List (Nat × Nat) := [(65, 1000)]
set_option maxHeartbeats 8000000 in
theorem th_4_65 {E : zE} {d : Nat} {m0 : zM} {a0 : Int} {F65 : Nat → Int} (hd : 1 ≤ d) (hI0 : zInv m0) (hG65 : m0 65 = F65) (ha0 : 0 ≤ a0 ∧ a0 ≤ 0) : zC E d 4 [(2, 65), (0, a0)] m0 (fun v m' => v = (9, 0) ∧ zInv m' ∧ zFr W_4_65 m0 m' ∧ (zFil (m' 65) 100 a0)) := by
  have hF0 : zFr W_4_65 m0 m0 := zFr.rfl
  generalize hQ : (fun (v : zV) (m' : zM) => v = (9, 0) ∧ zInv m' ∧ zFr W_4_65 m0 m' ∧ (zFil (m' 65) 100 a0)) = Q
  show zW E d 4 0 [(2, 65), (0, a0), (9, 0), (9, 0)] [] m0 Q
  refine zw_push zr_4_0 ?_
  refine zw_9 (L' := [(2, 65), (0, a0), (0, 0), (9, 0)]) zr_4_1 (Nat.le_of_ble_eq_true rfl) rfl ?_
  refine zw_7 zr_4_2 rfl ?_
  refine zw_101 (c := 65) (len := 100) zr_4_3 rfl rfl (by decide) ?_
  refine zw_9 (L' := [(2, 65), (0, a0), (0, 0), (0, 100)]) zr_4_4 (Nat.le_of_ble_eq_true rfl) rfl ?_
  have lp5_4 : ∀ (nlp5_4 : Nat) (i1 : Int) (f3 : Nat → Int) (m2 : zM), zInv m2 → zFr W_4_65 m0 m2 → m2 65 = f3 → 0 ≤ i1 → i1 ≤ 100 → (zFil f3 i1 a0) → (100 - i1).toNat < nlp5_4 → zW E (d) 4 5 [(2, 65), (0, a0), (0, i1), (0, 100)] [] m2 Q := by
    intro nlp5_4
    induction nlp5_4 with
    | zero =>
      intros
      exact absurd (by assumption : _ < 0) (Nat.not_lt_zero _)
    | succ nlp5_4 ihlp5_4 =>
      intro i1 f3 m2 hIm2 hFm2 fm2_65 li1 ui1 hv0lp5_4 hmlp5_4
      refine zw_3 zr_4_5 rfl ?_
      refine zw_3 zr_4_6 rfl ?_
      refine zw_41_3 zr_4_7 ?_ ?_
      · intro h6
        refine zw_R zr_4_20 (by decide) zm_4 (v := (9, 0)) rfl ?_
        rw [← hQ]; exact ⟨rfl, hIm2, hFm2, by rw [fm2_65]; exact zFil_le hv0lp5_4 (by omega)⟩
      · intro h8
        refine zw_7 zr_4_10 rfl ?_
        refine zw_3 zr_4_11 rfl ?_
        refine zw_3 zr_4_12 rfl ?_
        refine zw_49 (c := 65) (len := 100) zr_4_13 rfl rfl (by omega) (by omega) ?_
        intro m9 em9
        have hIm9 : zInv m9 := by rw [em9]; exact iu_65 hIm2 (by omega)
        have hFm9 : zFr W_4_65 m0 m9 := by rw [em9]; exact hFm2.any rfl
        have fm9_65 : m9 65 = zPt f3 ((i1).toNat) a0 := by rw [em9]; exact (zUp_ff (m := m2)).trans (congrArg (fun q => zPt q ((i1).toNat) a0) fm2_65)
        clear em9
        refine zw_15 (c := 1) (L' := [(2, 65), (0, a0), (0, (i1 + 1)), (0, 100)]) zr_4_14 rfl (by decide) (by omega) rfl ?_
        refine zw_42 zr_4_17 ?_
        exact zw_less (L := [(2, 65), (0, a0), (0, (i1 + 1)), (0, 100)]) ⟨Or.inr rfl, Or.inr rfl, Or.inr rfl, Or.inr rfl, trivial⟩ (ihlp5_4 ((i1 + 1)) (zPt f3 ((i1).toNat) a0) m9 hIm9 hFm9   fm9_65 (by omega) (by omega) (zFil_put hv0lp5_4 (by omega)) (by omega))
  exact lp5_4 _ (0) (F65) m0 hI0 hF0  hG65 (by omega) (by omega) (zFil_0) (Nat.lt_succ_self _)

abbrev W_90 : List (Nat × Nat) := [(65, 1000)]
set_option maxHeartbeats 8000000 in
theorem th_90 {E : zE} {d : Nat} {m0 : zM} {g0 : Int} {g1 : Int} {F65 : Nat → Int} {F6 : Nat → Int} {F7 : Nat → Int} {F8 : Nat → Int} (hd : 2 ≤ d) (hI0 : zInv m0) (hg0 : m0 1 1 = g0) (hg1 : m0 1 2 = g1) (hG65 : m0 65 = F65) (hG6 : m0 6 = F6) (hG7 : m0 7 = F7) (hG8 : m0 8 = F8) : zC E d 90 [(2, 63)] m0 (fun v m' => v = (9, 0) ∧ zInv m' ∧ zFr W_90 m0 m' ∧ (zWn (m' 65) F6 F7 F8 g1 g0)) := by
  have hF0 : zFr W_90 m0 m0 := zFr.rfl
  have bg0 := ib_1_1 hI0
  rw [hg0] at bg0
  have bg1 := ib_1_2 hI0
  rw [hg1] at bg1
  generalize hQ : (fun (v : zV) (m' : zM) => v = (9, 0) ∧ zInv m' ∧ zFr W_90 m0 m' ∧ (zWn (m' 65) F6 F7 F8 g1 g0)) = Q
  show zW E d 90 0 [(2, 63), (9, 0), (9, 0), (9, 0)] [] m0 Q
  refine zw_7 zr_90_0 rfl ?_
  refine zw_46r (s := 65) zr_90_1 rfl rfl rfl rfl ?_
  refine zw_push zr_90_4 ?_
  refine zw_C zr_90_5 (Or.inr rfl) zm_4 rfl rfl ⟨Nat.le_of_ble_eq_true rfl, Nat.le_of_ble_eq_true rfl, Nat.le_of_ble_eq_true rfl, rfl, by decide⟩ (by omega) (th_4_65 (d := d - 1) (by omega) hI0 (a0 := 0)   (F65 := F65)  hG65 (by omega) ) ?_
  rintro _ m1 ⟨rfl, hIm1, gm1, po0_m1⟩
  have hFm1 : zFr W_90 m0 m1 := hF0.trans gm1 rfl
  have km1_1_1 : m1 1 1 = g0 := (gm1 1 1 rfl).trans hg0
  have km1_1_2 : m1 1 2 = g1 := (gm1 1 2 rfl).trans hg1
  obtain ⟨f2, fm1_65⟩ : ∃ f, m1 65 = f := ⟨_, rfl⟩
  try rw [fm1_65] at po0_m1
  have fm1_6 : m1 6 = F6 := (funext fun k => gm1 6 k rfl).trans hG6
  have fm1_7 : m1 7 = F7 := (funext fun k => gm1 7 k rfl).trans hG7
  have fm1_8 : m1 8 = F8 := (funext fun k => gm1 8 k rfl).trans hG8
  show zW E (d) 90 8 [(2, 63), (9, 0), (9, 0), (9, 0)] [] m1 Q
  refine zw_push zr_90_8 ?_
  refine zw_9 (L' := [(2, 63), (0, 0), (9, 0), (9, 0)]) zr_90_9 (Nat.le_of_ble_eq_true rfl) rfl ?_
  have lp10_6 : ∀ (nlp10_6 : Nat) (i3 : Int) (f5 : Nat → Int) (m4 : zM), zInv m4 → zFr W_90 m0 m4 → m4 1 1 = g0 → m4 1 2 = g1 → m4 65 = f5 → m4 6 = F6 → m4 7 = F7 → m4 8 = F8 → 0 ≤ i3 → i3 ≤ 60 → (zWn f5 F6 F7 F8 g1 i3) → (i3 ≤ g0) → (60 - i3).toNat < nlp10_6 → zW E (d) 90 10 [(2, 63), (0, i3), (9, 0), (9, 0)] [] m4 Q := by
    intro nlp10_6
    induction nlp10_6 with
    | zero =>
      intros
      exact absurd (by assumption : _ < 0) (Nat.not_lt_zero _)
    | succ nlp10_6 ihlp10_6 =>
      intro i3 f5 m4 hIm4 hFm4 km4_1_1 km4_1_2 fm4_65 fm4_6 fm4_7 fm4_8 li3 ui3 hv0lp10_6 hv1lp10_6 hmlp10_6
      refine zw_3 zr_90_10 rfl ?_
      refine zw_7 zr_90_11 rfl ?_
      refine zw_46r (s := 1) zr_90_12 rfl rfl rfl rfl ?_
      refine zw_46i zr_90_15 km4_1_1 rfl rfl rfl ?_
      refine zw_41_3 zr_90_18 ?_ ?_
      · intro h8
        refine zw_R zr_90_108 (by decide) zm_90 (v := (9, 0)) rfl ?_
        rw [← hQ]; exact ⟨rfl, hIm4, hFm4, by rw [fm4_65, show g0 = i3 by omega]; exact hv0lp10_6⟩
      · intro h10
        refine zw_7 zr_90_21 rfl ?_
        refine zw_46r (s := 1) zr_90_22 rfl rfl rfl rfl ?_
        refine zw_46r (s := 6) zr_90_25 rfl rfl rfl rfl ?_
        refine zw_3 zr_90_28 rfl ?_
        refine zw_48 (c := 6) (len := 60) zr_90_29 rfl rfl (by omega) (by omega) ?_
        intro x11 ex11
        have bx11 := ib_6 hIm4 (k := (i3).toNat) (by omega)
        rw [← ex11] at bx11
        have qx11 : x11 = F6 (i3).toNat := by rw [← fm4_6]; exact ex11
        clear ex11
        refine zw_9 (L' := [(2, 63), (0, i3), (0, x11), (9, 0)]) zr_90_30 (Nat.le_of_ble_eq_true rfl) rfl ?_
        refine zw_7 zr_90_31 rfl ?_
        refine zw_46r (s := 1) zr_90_32 rfl rfl rfl rfl ?_
        refine zw_46r (s := 7) zr_90_35 rfl rfl rfl rfl ?_
        refine zw_3 zr_90_38 rfl ?_
        refine zw_48 (c := 7) (len := 60) zr_90_39 rfl rfl (by omega) (by omega) ?_
        intro x12 ex12
        have bx12 := ib_7 hIm4 (k := (i3).toNat) (by omega)
        rw [← ex12] at bx12
        have qx12 : x12 = F7 (i3).toNat := by rw [← fm4_7]; exact ex12
        clear ex12
        refine zw_9 (L' := [(2, 63), (0, i3), (0, x11), (0, x12)]) zr_90_40 (Nat.le_of_ble_eq_true rfl) rfl ?_
        refine zw_7 zr_90_41 rfl ?_
        refine zw_46r (s := 1) zr_90_42 rfl rfl rfl rfl ?_
        refine zw_3 zr_90_45 rfl ?_
        refine zw_C zr_90_46 (Or.inl rfl) zm_18 rfl rfl ⟨Nat.le_of_ble_eq_true rfl, Nat.le_of_ble_eq_true rfl, Nat.le_of_ble_eq_true rfl, rfl, by decide⟩ (by omega) (P := (fun v m' => zW E (d) 90 49 [(2, 63), (0, i3), (0, x11), (0, x12)] (if v.1 = 9 then [] else v :: []) m' Q)) ?_ (fun _ _ h => h)
        generalize hQ1 : (fun v m' => zW E (d) 90 49 [(2, 63), (0, i3), (0, x11), (0, x12)] (if v.1 = 9 then [] else v :: []) m' Q) = Q1
        show zW E (d - 1) 18 0 [(2, 1), (0, i3)] [] m4 Q1
        refine zw_7 zr_18_0 rfl ?_
        refine zw_46l zr_18_1 km4_1_2 rfl rfl rfl ?_
        refine zw_3 zr_18_4 rfl ?_
        refine zw_34p zr_18_5 (by omega) (by omega) ?_
        intro x13 hx13c hx13a hx13b
        refine zw_push zr_18_6 ?_
        refine zw_30o zr_18_7 (by omega) ?_
        refine zw_push zr_18_8 ?_
        refine zw_39_1 zr_18_9 zr_18_10 ?_ ?_
        · intro h14
          refine zw_push zr_18_17 ?_
          refine zw_R zr_18_18 (by decide) zm_18 (v := (0, 0)) (zRetB (by omega)) ?_
          rw [← hQ1]
          show zW E (d) 90 49 [(2, 63), (0, i3), (0, x11), (0, x12)] [(0, 0)] m4 Q
          refine zw_40_4 zr_90_49 ?_ ?_
          · intro h15; omega
          · intro h16
            refine zw_7 zr_90_52 rfl ?_
            refine zw_46r (s := 1) zr_90_53 rfl rfl rfl rfl ?_
            refine zw_46r (s := 8) zr_90_56 rfl rfl rfl rfl ?_
            refine zw_3 zr_90_59 rfl ?_
            refine zw_48 (c := 8) (len := 60) zr_90_60 rfl rfl (by omega) (by omega) ?_
            intro x17 ex17
            have bx17 := ib_8 hIm4 (k := (i3).toNat) (by omega)
            rw [← ex17] at bx17
            have qx17 : x17 = F8 (i3).toNat := by rw [← fm4_8]; exact ex17
            refine zw_push zr_90_61 ?_
            refine zw_41_1 zr_90_62 ?_ ?_
            · intro h18
              refine zw_15 (c := 1) (L' := [(2, 63), (0, (i3 + 1)), (0, x11), (0, x12)]) zr_90_102 rfl (by decide) (by omega) rfl ?_
              refine zw_42 zr_90_105 ?_
              exact zw_less (L := [(2, 63), (0, (i3 + 1)), (9, 0), (9, 0)]) ⟨Or.inr rfl, Or.inr rfl, Or.inl rfl, Or.inl rfl, trivial⟩ (ihlp10_6 ((i3 + 1)) (f5) m4 hIm4 hFm4  km4_1_1 km4_1_2 fm4_65 fm4_6 fm4_7 fm4_8 (by omega) (by omega) (by first | exact zWn_put hv0lp10_6 (by omega) (by omega) (by omega) (by omega) (by omega) qzz | exact zWn_skip hv0lp10_6 (by omega) (by omega)) (by omega) (by omega))
            · intro h20
              refine zw_7 zr_90_65 rfl ?_
              refine zw_46r (s := 65) zr_90_66 rfl rfl rfl rfl ?_
              refine zw_7 zr_90_69 rfl ?_
              refine zw_46r (s := 1) zr_90_70 rfl rfl rfl rfl ?_
              refine zw_46r (s := 8) zr_90_73 rfl rfl rfl rfl ?_
              refine zw_3 zr_90_76 rfl ?_
              refine zw_48k (c := 8) (len := 60) zr_90_77 rfl rfl (by omega) (by omega) rfl ex17.symm ?_
              refine zw_push zr_90_78 ?_
              refine zw_41_4 zr_90_79 ?_ ?_
              · intro h21
                refine zw_3 zr_90_91 rfl ?_
                refine zw_push zr_90_92 ?_
                refine zw_18 zr_90_94 (by omega) ?_
                refine zw_3 zr_90_95 rfl ?_
                refine zw_16 zr_90_96 (by omega) ?_
                refine zw_45 zr_90_97 ⟨rfl, rfl⟩ ?_
                refine zw_48 (c := 65) (len := 100) zr_90_98 rfl rfl (by omega) (by omega) ?_
                intro x22 ex22
                have bx22 := ib_65 hIm4 (k := (((x12 * 10) + x11)).toNat) (by omega)
                rw [← ex22] at bx22
                have qx22 : x22 = f5 (((x12 * 10) + x11)).toNat := by rw [← fm4_65]; exact ex22
                clear ex22
                have z23 : x22 ≤ i3 := by rw [qx22]; exact zWn_le hv0lp10_6 (by omega) (by omega)
                refine zw_push zr_90_99 ?_
                refine zw_16 zr_90_100 (by omega) ?_
                refine zw_49 (c := 65) (len := 100) zr_90_101 rfl rfl (by omega) (by omega) ?_
                intro m24 em24
                have hIm24 : zInv m24 := by rw [em24]; exact iu_65 hIm4 (by omega)
                have hFm24 : zFr W_90 m0 m24 := by rw [em24]; exact hFm4.any rfl
                have km24_1_1 : m24 1 1 = g0 := by rw [em24, zUp_ne (by omega)]; exact km4_1_1
                have km24_1_2 : m24 1 2 = g1 := by rw [em24, zUp_ne (by omega)]; exact km4_1_2
                have fm24_65 : m24 65 = zPt f5 ((((x12 * 10) + x11)).toNat) ((x22 + 1)) := by rw [em24]; exact (zUp_ff (m := m4)).trans (congrArg (fun q => zPt q ((((x12 * 10) + x11)).toNat) ((x22 + 1))) fm4_65)
                have fm24_6 : m24 6 = F6 := by rw [em24, zUp_fn (by decide)]; exact fm4_6
                have fm24_7 : m24 7 = F7 := by rw [em24, zUp_fn (by decide)]; exact fm4_7
                have fm24_8 : m24 8 = F8 := by rw [em24, zUp_fn (by decide)]; exact fm4_8
                clear em24
                refine zw_15 (c := 1) (L' := [(2, 63), (0, (i3 + 1)), (0, x11), (0, x12)]) zr_90_102 rfl (by decide) (by omega) rfl ?_
                refine zw_42 zr_90_105 ?_
                exact zw_less (L := [(2, 63), (0, (i3 + 1)), (9, 0), (9, 0)]) ⟨Or.inr rfl, Or.inr rfl, Or.inl rfl, Or.inl rfl, trivial⟩ (ihlp10_6 ((i3 + 1)) (zPt f5 ((((x12 * 10) + x11)).toNat) ((x22 + 1))) m24 hIm24 hFm24  km24_1_1 km24_1_2 fm24_65 fm24_6 fm24_7 fm24_8 (by omega) (by omega) (by first | exact zWn_put hv0lp10_6 (by omega) (by omega) (by omega) (by omega) (by omega) qx22 | exact zWn_skip hv0lp10_6 (by omega) (by omega)) (by omega) (by omega))
              · intro h26
                refine zw_3 zr_90_82 rfl ?_
                refine zw_push zr_90_83 ?_
                refine zw_18 zr_90_85 (by omega) ?_
                refine zw_3 zr_90_86 rfl ?_
                refine zw_16 zr_90_87 (by omega) ?_
                refine zw_42 zr_90_88 ?_
                refine zw_45 zr_90_97 ⟨rfl, rfl⟩ ?_
                refine zw_48 (c := 65) (len := 100) zr_90_98 rfl rfl (by omega) (by omega) ?_
                intro x27 ex27
                have bx27 := ib_65 hIm4 (k := (((x11 * 10) + x12)).toNat) (by omega)
                rw [← ex27] at bx27
                have qx27 : x27 = f5 (((x11 * 10) + x12)).toNat := by rw [← fm4_65]; exact ex27
                clear ex27
                have z28 : x27 ≤ i3 := by rw [qx27]; exact zWn_le hv0lp10_6 (by omega) (by omega)
                refine zw_push zr_90_99 ?_
                refine zw_16 zr_90_100 (by omega) ?_
                refine zw_49 (c := 65) (len := 100) zr_90_101 rfl rfl (by omega) (by omega) ?_
                intro m29 em29
                have hIm29 : zInv m29 := by rw [em29]; exact iu_65 hIm4 (by omega)
                have hFm29 : zFr W_90 m0 m29 := by rw [em29]; exact hFm4.any rfl
                have km29_1_1 : m29 1 1 = g0 := by rw [em29, zUp_ne (by omega)]; exact km4_1_1
                have km29_1_2 : m29 1 2 = g1 := by rw [em29, zUp_ne (by omega)]; exact km4_1_2
                have fm29_65 : m29 65 = zPt f5 ((((x11 * 10) + x12)).toNat) ((x27 + 1)) := by rw [em29]; exact (zUp_ff (m := m4)).trans (congrArg (fun q => zPt q ((((x11 * 10) + x12)).toNat) ((x27 + 1))) fm4_65)
                have fm29_6 : m29 6 = F6 := by rw [em29, zUp_fn (by decide)]; exact fm4_6
                have fm29_7 : m29 7 = F7 := by rw [em29, zUp_fn (by decide)]; exact fm4_7
                have fm29_8 : m29 8 = F8 := by rw [em29, zUp_fn (by decide)]; exact fm4_8
                clear em29
                refine zw_15 (c := 1) (L' := [(2, 63), (0, (i3 + 1)), (0, x11), (0, x12)]) zr_90_102 rfl (by decide) (by omega) rfl ?_
                refine zw_42 zr_90_105 ?_
                exact zw_less (L := [(2, 63), (0, (i3 + 1)), (9, 0), (9, 0)]) ⟨Or.inr rfl, Or.inr rfl, Or.inl rfl, Or.inl rfl, trivial⟩ (ihlp10_6 ((i3 + 1)) (zPt f5 ((((x11 * 10) + x12)).toNat) ((x27 + 1))) m29 hIm29 hFm29  km29_1_1 km29_1_2 fm29_65 fm29_6 fm29_7 fm29_8 (by omega) (by omega) (by first | exact zWn_put hv0lp10_6 (by omega) (by omega) (by omega) (by omega) (by omega) qx27 | exact zWn_skip hv0lp10_6 (by omega) (by omega)) (by omega) (by omega))
        · intro h31
          refine zw_push zr_18_13 ?_
          refine zw_42 zr_18_14 ?_
          refine zw_R zr_18_18 (by decide) zm_18 (v := (0, 1)) (zRetB (by omega)) ?_
          rw [← hQ1]
          show zW E (d) 90 49 [(2, 63), (0, i3), (0, x11), (0, x12)] [(0, 1)] m4 Q
          refine zw_40_4 zr_90_49 ?_ ?_
          · intro h32
            refine zw_15 (c := 1) (L' := [(2, 63), (0, (i3 + 1)), (0, x11), (0, x12)]) zr_90_102 rfl (by decide) (by omega) rfl ?_
            refine zw_42 zr_90_105 ?_
            exact zw_less (L := [(2, 63), (0, (i3 + 1)), (9, 0), (9, 0)]) ⟨Or.inr rfl, Or.inr rfl, Or.inl rfl, Or.inl rfl, trivial⟩ (ihlp10_6 ((i3 + 1)) (f5) m4 hIm4 hFm4  km4_1_1 km4_1_2 fm4_65 fm4_6 fm4_7 fm4_8 (by omega) (by omega) (by first | exact zWn_put hv0lp10_6 (by omega) (by omega) (by omega) (by omega) (by omega) qzz | exact zWn_skip hv0lp10_6 (by omega) (by omega)) (by omega) (by omega))
          · intro h34; omega
  exact lp10_6 _ (0) (f2) m1 hIm1 hFm1  km1_1_1 km1_1_2 fm1_65 fm1_6 fm1_7 fm1_8 (by omega) (by omega) (zWn_0 (by assumption)) (by omega) (Nat.lt_succ_self _)

set_option maxHeartbeats 8000000 in
theorem th_92 {E : zE} {d : Nat} {m0 : zM} {a0 : Int} {a1 : Int} {a2 : Int} {F65 : Nat → Int} (hd : 2 ≤ d) (hI0 : zInv m0) (hG65 : m0 65 = F65) (ha0 : 0 ≤ a0 ∧ a0 ≤ 9) (ha1 : 1 ≤ a1 ∧ a1 ≤ 9) (ha2 : 1 ≤ a2 ∧ a2 ≤ 9) : zC E d 92 [(2, 63), (0, a0), (0, a1), (0, a2)] m0 (fun v m' => ∃ r : Int, v = (0, r) ∧ 0 ≤ r ∧ r ≤ 1 ∧ m0 = m' ∧ (r = rgv F65 a0 a1 a2)) := by
  generalize hQ : (fun (v : zV) (m' : zM) => ∃ r : Int, v = (0, r) ∧ 0 ≤ r ∧ r ≤ 1 ∧ m0 = m' ∧ (r = rgv F65 a0 a1 a2)) = Q
  show zW E d 92 0 [(2, 63), (0, a0), (0, a1), (0, a2), (9, 0)] [] m0 Q
  refine zw_7 zr_92_0 rfl ?_
  refine zw_3 zr_92_1 rfl ?_
  refine zw_3 zr_92_2 rfl ?_
  refine zw_C zr_92_3 (Or.inl rfl) zm_91 rfl rfl ⟨Nat.le_of_ble_eq_true rfl, Nat.le_of_ble_eq_true rfl, Nat.le_of_ble_eq_true rfl, rfl, by decide⟩ (by omega) (P := (fun v m' => zW E (d) 92 6 [(2, 63), (0, a0), (0, a1), (0, a2), (9, 0)] (if v.1 = 9 then [] else v :: []) m' Q)) ?_ (fun _ _ h => h)
  generalize hQ1 : (fun v m' => zW E (d) 92 6 [(2, 63), (0, a0), (0, a1), (0, a2), (9, 0)] (if v.1 = 9 then [] else v :: []) m' Q) = Q1
  show zW E (d - 1) 91 0 [(2, 63), (0, a0), (0, a1)] [] m0 Q1
  refine zw_7 zr_91_0 rfl ?_
  refine zw_46r (s := 65) zr_91_1 rfl rfl rfl rfl ?_
  refine zw_3 zr_91_4 rfl ?_
  refine zw_push zr_91_5 ?_
  refine zw_18 zr_91_7 (by omega) ?_
  refine zw_3 zr_91_8 rfl ?_
  refine zw_16 zr_91_9 (by omega) ?_
  refine zw_48 (c := 65) (len := 100) zr_91_10 rfl rfl (by omega) (by omega) ?_
  intro x1 ex1
  have bx1 := ib_65 hI0 (k := (((a0 * 10) + a1)).toNat) (by omega)
  rw [← ex1] at bx1
  have qx1 : x1 = F65 (((a0 * 10) + a1)).toNat := by rw [← hG65]; exact ex1
  clear ex1
  refine zw_R zr_91_11 (by decide) zm_91 (v := (0, x1)) rfl ?_
  rw [← hQ1]
  show zW E (d) 92 6 [(2, 63), (0, a0), (0, a1), (0, a2), (9, 0)] [(0, x1)] m0 Q
  refine zw_40_5 zr_92_6 ?_ ?_
  · intro h2
    refine zw_push zr_92_31 ?_
    refine zw_10 (L' := [(2, 63), (0, a0), (0, a1), (0, a2), (0, 0)]) zr_92_32 (Nat.le_of_ble_eq_true rfl) rfl ?_
    refine zw_4 zr_92_34 rfl ?_
    refine zw_40_1 zr_92_36 ?_ ?_
    · intro h3
      refine zw_push zr_92_43 ?_
      refine zw_R zr_92_44 (by decide) zm_92 (v := (0, 0)) rfl ?_
      rw [← hQ]; exact ⟨_, rfl, by omega, by omega, rfl, by unfold rgv; split <;> omega⟩
    · intro h5; omega
  · intro h6
    refine zw_7 zr_92_9 rfl ?_
    refine zw_3 zr_92_10 rfl ?_
    refine zw_3 zr_92_11 rfl ?_
    refine zw_C zr_92_12 (Or.inl rfl) zm_91 rfl rfl ⟨Nat.le_of_ble_eq_true rfl, Nat.le_of_ble_eq_true rfl, Nat.le_of_ble_eq_true rfl, rfl, by decide⟩ (by omega) (P := (fun v m' => zW E (d) 92 15 [(2, 63), (0, a0), (0, a1), (0, a2), (9, 0)] (if v.1 = 9 then [] else v :: []) m' Q)) ?_ (fun _ _ h => h)
    generalize hQ1 : (fun v m' => zW E (d) 92 15 [(2, 63), (0, a0), (0, a1), (0, a2), (9, 0)] (if v.1 = 9 then [] else v :: []) m' Q) = Q1
    show zW E (d - 1) 91 0 [(2, 63), (0, a1), (0, a2)] [] m0 Q1
    refine zw_7 zr_91_0 rfl ?_
    refine zw_46r (s := 65) zr_91_1 rfl rfl rfl rfl ?_
    refine zw_3 zr_91_4 rfl ?_
    refine zw_push zr_91_5 ?_
    refine zw_18 zr_91_7 (by omega) ?_
    refine zw_3 zr_91_8 rfl ?_
    refine zw_16 zr_91_9 (by omega) ?_
    refine zw_48 (c := 65) (len := 100) zr_91_10 rfl rfl (by omega) (by omega) ?_
    intro x7 ex7
    have bx7 := ib_65 hI0 (k := (((a1 * 10) + a2)).toNat) (by omega)
    rw [← ex7] at bx7
    have qx7 : x7 = F65 (((a1 * 10) + a2)).toNat := by rw [← hG65]; exact ex7
    clear ex7
    refine zw_R zr_91_11 (by decide) zm_91 (v := (0, x7)) rfl ?_
    rw [← hQ1]
    show zW E (d) 92 15 [(2, 63), (0, a0), (0, a1), (0, a2), (9, 0)] [(0, x7)] m0 Q
    refine zw_40_5 zr_92_15 ?_ ?_
    · intro h8
      refine zw_push zr_92_31 ?_
      refine zw_10 (L' := [(2, 63), (0, a0), (0, a1), (0, a2), (0, 0)]) zr_92_32 (Nat.le_of_ble_eq_true rfl) rfl ?_
      refine zw_4 zr_92_34 rfl ?_
      refine zw_40_1 zr_92_36 ?_ ?_
      · intro h9
        refine zw_push zr_92_43 ?_
        refine zw_R zr_92_44 (by decide) zm_92 (v := (0, 0)) rfl ?_
        rw [← hQ]; exact ⟨_, rfl, by omega, by omega, rfl, by unfold rgv; split <;> omega⟩
      · intro h11; omega
    · intro h12
      refine zw_7 zr_92_18 rfl ?_
      refine zw_3 zr_92_19 rfl ?_
      refine zw_3 zr_92_20 rfl ?_
      refine zw_C zr_92_21 (Or.inl rfl) zm_91 rfl rfl ⟨Nat.le_of_ble_eq_true rfl, Nat.le_of_ble_eq_true rfl, Nat.le_of_ble_eq_true rfl, rfl, by decide⟩ (by omega) (P := (fun v m' => zW E (d) 92 24 [(2, 63), (0, a0), (0, a1), (0, a2), (9, 0)] (if v.1 = 9 then [] else v :: []) m' Q)) ?_ (fun _ _ h => h)
      generalize hQ1 : (fun v m' => zW E (d) 92 24 [(2, 63), (0, a0), (0, a1), (0, a2), (9, 0)] (if v.1 = 9 then [] else v :: []) m' Q) = Q1
      show zW E (d - 1) 91 0 [(2, 63), (0, a2), (0, a0)] [] m0 Q1
      refine zw_7 zr_91_0 rfl ?_
      refine zw_46r (s := 65) zr_91_1 rfl rfl rfl rfl ?_
      refine zw_3 zr_91_4 rfl ?_
      refine zw_push zr_91_5 ?_
      refine zw_18 zr_91_7 (by omega) ?_
      refine zw_3 zr_91_8 rfl ?_
      refine zw_16 zr_91_9 (by omega) ?_
      refine zw_48 (c := 65) (len := 100) zr_91_10 rfl rfl (by omega) (by omega) ?_
      intro x13 ex13
      have bx13 := ib_65 hI0 (k := (((a2 * 10) + a0)).toNat) (by omega)
      rw [← ex13] at bx13
      have qx13 : x13 = F65 (((a2 * 10) + a0)).toNat := by rw [← hG65]; exact ex13
      clear ex13
      refine zw_R zr_91_11 (by decide) zm_91 (v := (0, x13)) rfl ?_
      rw [← hQ1]
      show zW E (d) 92 24 [(2, 63), (0, a0), (0, a1), (0, a2), (9, 0)] [(0, x13)] m0 Q
      refine zw_40_5 zr_92_24 ?_ ?_
      · intro h14
        refine zw_push zr_92_31 ?_
        refine zw_10 (L' := [(2, 63), (0, a0), (0, a1), (0, a2), (0, 0)]) zr_92_32 (Nat.le_of_ble_eq_true rfl) rfl ?_
        refine zw_4 zr_92_34 rfl ?_
        refine zw_40_1 zr_92_36 ?_ ?_
        · intro h15
          refine zw_push zr_92_43 ?_
          refine zw_R zr_92_44 (by decide) zm_92 (v := (0, 0)) rfl ?_
          rw [← hQ]; exact ⟨_, rfl, by omega, by omega, rfl, by unfold rgv; split <;> omega⟩
        · intro h17; omega
      · intro h18
        refine zw_push zr_92_27 ?_
        refine zw_42 zr_92_28 ?_
        refine zw_10 (L' := [(2, 63), (0, a0), (0, a1), (0, a2), (0, 1)]) zr_92_32 (Nat.le_of_ble_eq_true rfl) rfl ?_
        refine zw_4 zr_92_34 rfl ?_
        refine zw_40_1 zr_92_36 ?_ ?_
        · intro h19; omega
        · intro h20
          refine zw_push zr_92_39 ?_
          refine zw_42 zr_92_40 ?_
          refine zw_R zr_92_44 (by decide) zm_92 (v := (0, 1)) rfl ?_
          rw [← hQ]; exact ⟨_, rfl, by omega, by omega, rfl, by unfold rgv; split <;> omega⟩

abbrev W_93 : List (Nat × Nat) := [(65, 1000)]
set_option maxHeartbeats 8000000 in
theorem th_93 {E : zE} {d : Nat} {m0 : zM} {g0 : Int} {g1 : Int} {g2 : Int} {F65 : Nat → Int} {F6 : Nat → Int} {F7 : Nat → Int} {F8 : Nat → Int} (hd : 3 ≤ d) (hI0 : zInv m0) (hg0 : m0 1 0 = g0) (hg1 : m0 1 1 = g1) (hg2 : m0 1 2 = g2) (hG65 : m0 65 = F65) (hG6 : m0 6 = F6) (hG7 : m0 7 = F7) (hG8 : m0 8 = F8) : zC E d 93 [(2, 63)] m0 (fun v m' => ∃ r : Int, v = (0, r) ∧ 0 ≤ r ∧ r ≤ 2000 ∧ zInv m' ∧ zFr W_93 m0 m' ∧ (∃ f, zWn f F6 F7 F8 g2 g1 ∧ r = ra1 f g0.toNat g0.toNat)) := by
  have hF0 : zFr W_93 m0 m0 := zFr.rfl
  have bg0 := ib_1_0 hI0
  rw [hg0] at bg0
  have bg1 := ib_1_1 hI0
  rw [hg1] at bg1
  have bg2 := ib_1_2 hI0
  rw [hg2] at bg2
  generalize hQ : (fun (v : zV) (m' : zM) => ∃ r : Int, v = (0, r) ∧ 0 ≤ r ∧ r ≤ 2000 ∧ zInv m' ∧ zFr W_93 m0 m' ∧ (∃ f, zWn f F6 F7 F8 g2 g1 ∧ r = ra1 f g0.toNat g0.toNat)) = Q
  show zW E d 93 0 [(2, 63), (9, 0), (9, 0), (9, 0), (9, 0)] [] m0 Q
  refine zw_7 zr_93_0 rfl ?_
  refine zw_C zr_93_1 (Or.inl rfl) zm_90 rfl rfl ⟨Nat.le_of_ble_eq_true rfl, Nat.le_of_ble_eq_true rfl, Nat.le_of_ble_eq_true rfl, rfl, by decide⟩ (by omega) (th_90 (d := d - 1) (by omega) hI0  (g0 := g1) (g1 := g2)  (F65 := F65) (F6 := F6) (F7 := F7) (F8 := F8) hg1 hg2 hG65 hG6 hG7 hG8  ) ?_
  rintro _ m1 ⟨rfl, hIm1, gm1, po0_m1⟩
  have hFm1 : zFr W_93 m0 m1 := hF0.trans gm1 rfl
  have km1_1_0 : m1 1 0 = g0 := (gm1 1 0 rfl).trans hg0
  have km1_1_1 : m1 1 1 = g1 := (gm1 1 1 rfl).trans hg1
  have km1_1_2 : m1 1 2 = g2 := (gm1 1 2 rfl).trans hg2
  obtain ⟨f2, fm1_65⟩ : ∃ f, m1 65 = f := ⟨_, rfl⟩
  try rw [fm1_65] at po0_m1
  have fm1_6 : m1 6 = F6 := (funext fun k => gm1 6 k rfl).trans hG6
  have fm1_7 : m1 7 = F7 := (funext fun k => gm1 7 k rfl).trans hG7
  have fm1_8 : m1 8 = F8 := (funext fun k => gm1 8 k rfl).trans hG8
  show zW E (d) 93 4 [(2, 63), (9, 0), (9, 0), (9, 0), (9, 0)] [] m1 Q
  refine zw_push zr_93_4 ?_
  refine zw_9 (L' := [(2, 63), (0, 0), (9, 0), (9, 0), (9, 0)]) zr_93_5 (Nat.le_of_ble_eq_true rfl) rfl ?_
  refine zw_push zr_93_6 ?_
  refine zw_9 (L' := [(2, 63), (0, 0), (0, 0), (9, 0), (9, 0)]) zr_93_7 (Nat.le_of_ble_eq_true rfl) rfl ?_
  have lp8_5 : ∀ (nlp8_5 : Nat) (i3 i4 : Int), 0 ≤ i3 → i3 ≤ 2000 → 0 ≤ i4 → i4 ≤ 10 → (i3 = ra1 f2 g0.toNat (i4).toNat) → (i3 ≤ 200 * i4 ∧ i4 ≤ g0) → (10 - i4).toNat < nlp8_5 → zW E (d) 93 8 [(2, 63), (0, i3), (0, i4), (9, 0), (9, 0)] [] m1 Q := by
    intro nlp8_5
    induction nlp8_5 with
    | zero =>
      intros
      exact absurd (by assumption : _ < 0) (Nat.not_lt_zero _)
    | succ nlp8_5 ihlp8_5 =>
      intro i3 i4 li3 ui3 li4 ui4 hv0lp8_5 hv1lp8_5 hmlp8_5
      refine zw_3 zr_93_8 rfl ?_
      refine zw_7 zr_93_9 rfl ?_
      refine zw_46r (s := 1) zr_93_10 rfl rfl rfl rfl ?_
      refine zw_46i zr_93_13 km1_1_0 rfl rfl rfl ?_
      refine zw_41_3 zr_93_16 ?_ ?_
      · intro h7
        have z8 := hv0lp8_5; rw [show (i4).toNat = g0.toNat by omega] at z8
        refine zw_3 zr_93_89 rfl ?_
        refine zw_R zr_93_90 (by decide) zm_93 (v := (0, i3)) rfl ?_
        rw [← hQ]; exact ⟨_, rfl, by omega, by omega, hIm1, hFm1, ⟨f2, by assumption, by omega⟩⟩
      · intro h10
        refine zw_3 zr_93_19 rfl ?_
        refine zw_push zr_93_20 ?_
        refine zw_16 zr_93_21 (by omega) ?_
        refine zw_9 (L' := [(2, 63), (0, i3), (0, i4), (0, (i4 + 1)), (9, 0)]) zr_93_22 (Nat.le_of_ble_eq_true rfl) rfl ?_
        have lp23_13 : ∀ (nlp23_13 : Nat) (i11 i12 : Int), 0 ≤ i11 → i11 ≤ 2000 → 1 ≤ i12 → i12 ≤ 10 → (i11 = ra1 f2 g0.toNat (i4).toNat + ra2 f2 g0.toNat (i4).toNat (i12).toNat) → (i11 ≤ 200 * i4 + 20 * i12 ∧ i12 ≤ g0 ∧ i4 + 1 ≤ i12) → (10 - i12).toNat < nlp23_13 → zW E (d) 93 23 [(2, 63), (0, i11), (0, i4), (0, i12), (9, 0)] [] m1 Q := by
          intro nlp23_13
          induction nlp23_13 with
          | zero =>
            intros
            exact absurd (by assumption : _ < 0) (Nat.not_lt_zero _)
          | succ nlp23_13 ihlp23_13 =>
            intro i11 i12 li11 ui11 li12 ui12 hv0lp23_13 hv1lp23_13 hmlp23_13
            refine zw_3 zr_93_23 rfl ?_
            refine zw_7 zr_93_24 rfl ?_
            refine zw_46r (s := 1) zr_93_25 rfl rfl rfl rfl ?_
            refine zw_46i zr_93_28 km1_1_0 rfl rfl rfl ?_
            refine zw_41_3 zr_93_31 ?_ ?_
            · intro h15
              have z16 := hv0lp23_13; rw [show (i12).toNat = g0.toNat by omega] at z16
              have z17 := ra1_s f2 g0.toNat (i4) (by omega)
              refine zw_15 (c := 1) (L' := [(2, 63), (0, i11), (0, (i4 + 1)), (0, i12), (9, 0)]) zr_93_83 rfl (by decide) (by omega) rfl ?_
              refine zw_42 zr_93_86 ?_
              exact zw_less (L := [(2, 63), (0, i11), (0, (i4 + 1)), (9, 0), (9, 0)]) ⟨Or.inr rfl, Or.inr rfl, Or.inr rfl, Or.inl rfl, Or.inl rfl, trivial⟩ (ihlp8_5 (i11) ((i4 + 1))  (by omega) (by omega) (by omega) (by omega) (by omega) (by omega) (by omega))
            · intro h18
              refine zw_3 zr_93_34 rfl ?_
              refine zw_push zr_93_35 ?_
              refine zw_16 zr_93_36 (by omega) ?_
              refine zw_10 (L' := [(2, 63), (0, i11), (0, i4), (0, i12), (0, (i12 + 1))]) zr_93_37 (Nat.le_of_ble_eq_true rfl) rfl ?_
              have lp39_21 : ∀ (nlp39_21 : Nat) (i19 i20 : Int), 0 ≤ i19 → i19 ≤ 2000 → 2 ≤ i20 → i20 ≤ 10 → (i19 = ra1 f2 g0.toNat (i4).toNat + ra2 f2 g0.toNat (i4).toNat (i12).toNat + ra3 f2 (i4).toNat (i12).toNat (i20).toNat) → (i19 ≤ 200 * i4 + 20 * i12 + 2 * i20 ∧ i20 ≤ g0 ∧ i12 + 1 ≤ i20) → (10 - i20).toNat < nlp39_21 → zW E (d) 93 39 [(2, 63), (0, i19), (0, i4), (0, i12), (0, i20)] [] m1 Q := by
                intro nlp39_21
                induction nlp39_21 with
                | zero =>
                  intros
                  exact absurd (by assumption : _ < 0) (Nat.not_lt_zero _)
                | succ nlp39_21 ihlp39_21 =>
                  intro i19 i20 li19 ui19 li20 ui20 hv0lp39_21 hv1lp39_21 hmlp39_21
                  refine zw_4 zr_93_39 rfl ?_
                  refine zw_7 zr_93_41 rfl ?_
                  refine zw_46r (s := 1) zr_93_42 rfl rfl rfl rfl ?_
                  refine zw_46i zr_93_45 km1_1_0 rfl rfl rfl ?_
                  refine zw_41_3 zr_93_48 ?_ ?_
                  · intro h23
                    have z24 := hv0lp39_21; rw [show (i20).toNat = g0.toNat by omega] at z24
                    have z25 := ra2_s f2 g0.toNat (i4) (i12) (by omega) (by omega)
                    refine zw_15 (c := 1) (L' := [(2, 63), (0, i19), (0, i4), (0, (i12 + 1)), (0, i20)]) zr_93_77 rfl (by decide) (by omega) rfl ?_
                    refine zw_42 zr_93_80 ?_
                    exact zw_less (L := [(2, 63), (0, i19), (0, i4), (0, (i12 + 1)), (9, 0)]) ⟨Or.inr rfl, Or.inr rfl, Or.inr rfl, Or.inr rfl, Or.inl rfl, trivial⟩ (ihlp23_13 (i19) ((i12 + 1))  (by omega) (by omega) (by omega) (by omega) (by omega) (by omega) (by omega))
                  · intro h26
                    refine zw_3 zr_93_51 rfl ?_
                    refine zw_7 zr_93_52 rfl ?_
                    refine zw_3 zr_93_53 rfl ?_
                    refine zw_3 zr_93_54 rfl ?_
                    refine zw_4 zr_93_55 rfl ?_
                    refine zw_C zr_93_57 (Or.inl rfl) zm_92 rfl rfl ⟨Nat.le_of_ble_eq_true rfl, Nat.le_of_ble_eq_true rfl, Nat.le_of_ble_eq_true rfl, rfl, by decide⟩ (by omega) (th_92 (d := d - 1) (by omega) hIm1 (a0 := i4) (a1 := i12) (a2 := i20)   (F65 := f2)  fm1_65 (by omega) (by omega) (by omega) ) ?_
                    rintro _ _ ⟨r27, rfl, hr27a, hr27b, rfl, po0_r27⟩
                    show zW E (d) 93 60 [(2, 63), (0, i19), (0, i4), (0, i12), (0, i20)] [(0, r27), (0, i19)] m1 Q
                    refine zw_7 zr_93_60 rfl ?_
                    refine zw_3 zr_93_61 rfl ?_
                    refine zw_4 zr_93_62 rfl ?_
                    refine zw_3 zr_93_64 rfl ?_
                    refine zw_C zr_93_65 (Or.inl rfl) zm_92 rfl rfl ⟨Nat.le_of_ble_eq_true rfl, Nat.le_of_ble_eq_true rfl, Nat.le_of_ble_eq_true rfl, rfl, by decide⟩ (by omega) (th_92 (d := d - 1) (by omega) hIm1 (a0 := i4) (a1 := i20) (a2 := i12)   (F65 := f2)  fm1_65 (by omega) (by omega) (by omega) ) ?_
                    rintro _ _ ⟨r28, rfl, hr28a, hr28b, rfl, po0_r28⟩
                    show zW E (d) 93 68 [(2, 63), (0, i19), (0, i4), (0, i12), (0, i20)] [(0, r28), (0, r27), (0, i19)] m1 Q
                    refine zw_16 zr_93_68 (by omega) ?_
                    refine zw_16 zr_93_69 (by omega) ?_
                    refine zw_9 (L' := [(2, 63), (0, (i19 + (r27 + r28))), (0, i4), (0, i12), (0, i20)]) zr_93_70 (Nat.le_of_ble_eq_true rfl) rfl ?_
                    have z29 := ra3_s f2 (i4) (i12) (i20) (by omega) (by omega) (by omega)
                    refine zw_15 (c := 1) (L' := [(2, 63), (0, (i19 + (r27 + r28))), (0, i4), (0, i12), (0, (i20 + 1))]) zr_93_71 rfl (by decide) (by omega) rfl ?_
                    refine zw_42 zr_93_74 ?_
                    exact zw_less (L := [(2, 63), (0, (i19 + (r27 + r28))), (0, i4), (0, i12), (0, (i20 + 1))]) ⟨Or.inr rfl, Or.inr rfl, Or.inr rfl, Or.inr rfl, Or.inr rfl, trivial⟩ (ihlp39_21 ((i19 + (r27 + r28))) ((i20 + 1))  (by omega) (by omega) (by omega) (by omega) (by omega) (by omega) (by omega))
              exact lp39_21 _ (i11) ((i12 + 1))  (by omega) (by omega) (by omega) (by omega) (by have := ra3_0 f2 (i4) (i12) (by omega); omega) (by omega) (Nat.lt_succ_self _)
        exact lp23_13 _ (i3) ((i4 + 1))  (by omega) (by omega) (by omega) (by omega) (by have := ra2_0 f2 g0.toNat (i4) (by omega); omega) (by omega) (Nat.lt_succ_self _)
  exact lp8_5 _ (0) (0)  (by omega) (by omega) (by omega) (by omega) (by rfl) (by omega) (Nat.lt_succ_self _)

abbrev W_124 : List (Nat × Nat) := [(65, 1000)]
set_option maxHeartbeats 8000000 in
theorem th_124 {E : zE} {d : Nat} {m0 : zM} {g0 : Int} {g1 : Int} {g2 : Int} {F6 : Nat → Int} {F7 : Nat → Int} {F8 : Nat → Int} (hd : 4 ≤ d) (hI0 : zInv m0) (hg0 : m0 1 0 = g0) (hg1 : m0 1 1 = g1) (hg2 : m0 1 2 = g2) (hG6 : m0 6 = F6) (hG7 : m0 7 = F7) (hG8 : m0 8 = F8) : zC E d 124 [(2, 0)] m0 (fun v m' => ∃ r : Int, v = (0, r) ∧ 0 ≤ r ∧ r ≤ 2000 ∧ zInv m' ∧ zFr W_124 m0 m' ∧ (∃ f, zWn f F6 F7 F8 g2 g1 ∧ r = ra1 f g0.toNat g0.toNat)) := by
  have hF0 : zFr W_124 m0 m0 := zFr.rfl
  have bg0 := ib_1_0 hI0
  rw [hg0] at bg0
  have bg1 := ib_1_1 hI0
  rw [hg1] at bg1
  have bg2 := ib_1_2 hI0
  rw [hg2] at bg2
  generalize hQ : (fun (v : zV) (m' : zM) => ∃ r : Int, v = (0, r) ∧ 0 ≤ r ∧ r ≤ 2000 ∧ zInv m' ∧ zFr W_124 m0 m' ∧ (∃ f, zWn f F6 F7 F8 g2 g1 ∧ r = ra1 f g0.toNat g0.toNat)) = Q
  show zW E d 124 0 [(2, 0)] [] m0 Q
  refine zw_7 zr_124_0 rfl ?_
  refine zw_46r (s := 63) zr_124_1 rfl rfl rfl rfl ?_
  refine zw_C zr_124_4 (Or.inl rfl) zm_93 rfl rfl ⟨Nat.le_of_ble_eq_true rfl, Nat.le_of_ble_eq_true rfl, Nat.le_of_ble_eq_true rfl, rfl, by decide⟩ (by omega) (th_93 (d := d - 1) (by omega) hI0  (g0 := g0) (g1 := g1) (g2 := g2)  (F65 := m0 65) (F6 := F6) (F7 := F7) (F8 := F8) hg0 hg1 hg2 rfl hG6 hG7 hG8  ) ?_
  rintro _ m1 ⟨r2, rfl, hr2a, hr2b, hIm1, gm1, po0_r2⟩
  have hFm1 : zFr W_124 m0 m1 := hF0.trans gm1 rfl
  have km1_1_0 : m1 1 0 = g0 := (gm1 1 0 rfl).trans hg0
  have km1_1_1 : m1 1 1 = g1 := (gm1 1 1 rfl).trans hg1
  have km1_1_2 : m1 1 2 = g2 := (gm1 1 2 rfl).trans hg2
  have fm1_6 : m1 6 = F6 := (funext fun k => gm1 6 k rfl).trans hG6
  have fm1_7 : m1 7 = F7 := (funext fun k => gm1 7 k rfl).trans hG7
  have fm1_8 : m1 8 = F8 := (funext fun k => gm1 8 k rfl).trans hG8
  show zW E (d) 124 7 [(2, 0)] [(0, r2)] m1 Q
  refine zw_R zr_124_7 (by decide) zm_124 (v := (0, r2)) rfl ?_
  rw [← hQ]; exact ⟨_, rfl, by omega, by omega, hIm1, hFm1, po0_r2⟩

set_option maxHeartbeats 8000000 in
theorem th_197 {E : zE} {d : Nat} {m0 : zM} {a0 : Int} {a1 : Int} {F70 : Nat → Int} (hd : 2 ≤ d) (hI0 : zInv m0) (hG70 : m0 70 = F70) (ha0 : 0 ≤ a0 ∧ a0 ≤ 9) (ha1 : 0 ≤ a1 ∧ a1 ≤ 9) : zC E d 197 [(2, 69), (0, a0), (0, a1)] m0 (fun v m' => ∃ r : Int, v = (0, r) ∧ 0 ≤ r ∧ r ≤ 1 ∧ m0 = m' ∧ (r = hbv F70 a0 a1 (F70 823).toNat)) := by
  generalize hQ : (fun (v : zV) (m' : zM) => ∃ r : Int, v = (0, r) ∧ 0 ≤ r ∧ r ≤ 1 ∧ m0 = m' ∧ (r = hbv F70 a0 a1 (F70 823).toNat)) = Q
  show zW E d 197 0 [(2, 69), (0, a0), (0, a1), (9, 0), (9, 0), (9, 0)] [] m0 Q
  refine zw_push zr_197_0 ?_
  refine zw_9 (L' := [(2, 69), (0, a0), (0, a1), (0, 0), (9, 0), (9, 0)]) zr_197_1 (Nat.le_of_ble_eq_true rfl) rfl ?_
  refine zw_push zr_197_2 ?_
  refine zw_10 (L' := [(2, 69), (0, a0), (0, a1), (0, 0), (0, 0), (9, 0)]) zr_197_3 (Nat.le_of_ble_eq_true rfl) rfl ?_
  have lp5_3 : ∀ (nlp5_3 : Nat) (i1 i2 : Int), 0 ≤ i1 → i1 ≤ 1 → 0 ≤ i2 → i2 ≤ 60 → (i1 = hbv F70 a0 a1 (i2).toNat) → (i2 ≤ m0 70 823) → (60 - i2).toNat < nlp5_3 → zW E (d) 197 5 [(2, 69), (0, a0), (0, a1), (0, i1), (0, i2), (9, 0)] [] m0 Q := by
    intro nlp5_3
    induction nlp5_3 with
    | zero =>
      intros
      exact absurd (by assumption : _ < 0) (Nat.not_lt_zero _)
    | succ nlp5_3 ihlp5_3 =>
      intro i1 i2 li1 ui1 li2 ui2 hv0lp5_3 hv1lp5_3 hmlp5_3
      have z5 := zhb F70 a0 a1 (i2).toNat (i2 + 1).toNat ((90 + (6 * i2)) + 1).toNat ((90 + (6 * i2)) + 2).toNat ((90 + (6 * i2)) + 3).toNat ((90 + (6 * i2)) + 4).toNat (by omega) (by omega) (by omega) (by omega) (by omega)
      refine zw_4 zr_197_5 rfl ?_
      refine zw_7 zr_197_7 rfl ?_
      refine zw_C zr_197_8 (Or.inl rfl) zm_142 rfl rfl ⟨Nat.le_of_ble_eq_true rfl, Nat.le_of_ble_eq_true rfl, Nat.le_of_ble_eq_true rfl, rfl, by decide⟩ (by omega) (P := (fun v m' => zW E (d) 197 11 [(2, 69), (0, a0), (0, a1), (0, i1), (0, i2), (9, 0)] (if v.1 = 9 then [(0, i2)] else v :: [(0, i2)]) m' Q)) ?_ (fun _ _ h => h)
      generalize hQ1 : (fun v m' => zW E (d) 197 11 [(2, 69), (0, a0), (0, a1), (0, i1), (0, i2), (9, 0)] (if v.1 = 9 then [(0, i2)] else v :: [(0, i2)]) m' Q) = Q1
      show zW E (d - 1) 142 0 [(2, 69)] [] m0 Q1
      refine zw_7 zr_142_0 rfl ?_
      refine zw_46r (s := 70) zr_142_1 rfl rfl rfl rfl ?_
      refine zw_push zr_142_4 ?_
      obtain ⟨f6, ef6⟩ : ∃ v, m0 70 823 = v := ⟨_, rfl⟩
      have bf6 : 0 ≤ m0 70 823 ∧ m0 70 823 ≤ 60 := ib_70_meetings hI0 (by omega)
      rw [ef6] at bf6
      refine zw_48k (c := 70) (len := 826) zr_142_7 rfl rfl (by omega) (by omega) (show (823 : Int).toNat = 823 by omega) ef6 ?_
      refine zw_R zr_142_8 (by decide) zm_142 (v := (0, f6)) rfl ?_
      rw [← hQ1]
      show zW E (d) 197 11 [(2, 69), (0, a0), (0, a1), (0, i1), (0, i2), (9, 0)] [(0, f6), (0, i2)] m0 Q
      refine zw_41_3 zr_197_11 ?_ ?_
      · intro h7
        refine zw_3 zr_197_117 rfl ?_
        refine zw_R zr_197_118 (by decide) zm_197 (v := (0, i1)) (zRetB (by omega)) ?_
        rw [← hQ]; exact ⟨_, rfl, by omega, by omega, rfl, by rw [show F70 823 = i2 by rw [← hG70]; omega]; omega⟩
      · intro h9
        refine zw_7 zr_197_14 rfl ?_
        refine zw_4 zr_197_15 rfl ?_
        refine zw_push zr_197_17 ?_
        refine zw_C zr_197_18 (Or.inl rfl) zm_144 rfl rfl ⟨Nat.le_of_ble_eq_true rfl, Nat.le_of_ble_eq_true rfl, Nat.le_of_ble_eq_true rfl, rfl, by decide⟩ (by omega) (P := (fun v m' => zW E (d) 197 21 [(2, 69), (0, a0), (0, a1), (0, i1), (0, i2), (9, 0)] (if v.1 = 9 then [] else v :: []) m' Q)) ?_ (fun _ _ h => h)
        generalize hQ1 : (fun v m' => zW E (d) 197 21 [(2, 69), (0, a0), (0, a1), (0, i1), (0, i2), (9, 0)] (if v.1 = 9 then [] else v :: []) m' Q) = Q1
        show zW E (d - 1) 144 0 [(2, 69), (0, i2), (0, 1)] [] m0 Q1
        refine zw_7 zr_144_0 rfl ?_
        refine zw_46r (s := 70) zr_144_1 rfl rfl rfl rfl ?_
        refine zw_push zr_144_4 ?_
        refine zw_push zr_144_6 ?_
        refine zw_3 zr_144_8 rfl ?_
        refine zw_18 zr_144_9 (by omega) ?_
        refine zw_16 zr_144_10 (by omega) ?_
        refine zw_3 zr_144_11 rfl ?_
        refine zw_16 zr_144_12 (by omega) ?_
        refine zw_48 (c := 70) (len := 826) zr_144_13 rfl rfl (by omega) (by omega) ?_
        intro x10 ex10
        have bx10 := ib_70_m1 hI0 (k := (((90 + (6 * i2)) + 1)).toNat) (by omega)
        rw [← ex10] at bx10
        have qx10 : x10 = F70 (((90 + (6 * i2)) + 1)).toNat := by rw [← hG70]; exact ex10
        refine zw_R zr_144_14 (by decide) zm_144 (v := (0, x10)) rfl ?_
        rw [← hQ1]
        show zW E (d) 197 21 [(2, 69), (0, a0), (0, a1), (0, i1), (0, i2), (9, 0)] [(0, x10)] m0 Q
        refine zw_3 zr_197_21 rfl ?_
        refine zw_41_4 zr_197_22 ?_ ?_
        · intro h11
          refine zw_7 zr_197_47 rfl ?_
          refine zw_4 zr_197_48 rfl ?_
          refine zw_push zr_197_50 ?_
          refine zw_C zr_197_51 (Or.inl rfl) zm_144 rfl rfl ⟨Nat.le_of_ble_eq_true rfl, Nat.le_of_ble_eq_true rfl, Nat.le_of_ble_eq_true rfl, rfl, by decide⟩ (by omega) (P := (fun v m' => zW E (d) 197 54 [(2, 69), (0, a0), (0, a1), (0, i1), (0, i2), (9, 0)] (if v.1 = 9 then [] else v :: []) m' Q)) ?_ (fun _ _ h => h)
          generalize hQ1 : (fun v m' => zW E (d) 197 54 [(2, 69), (0, a0), (0, a1), (0, i1), (0, i2), (9, 0)] (if v.1 = 9 then [] else v :: []) m' Q) = Q1
          show zW E (d - 1) 144 0 [(2, 69), (0, i2), (0, 1)] [] m0 Q1
          refine zw_7 zr_144_0 rfl ?_
          refine zw_46r (s := 70) zr_144_1 rfl rfl rfl rfl ?_
          refine zw_push zr_144_4 ?_
          refine zw_push zr_144_6 ?_
          refine zw_3 zr_144_8 rfl ?_
          refine zw_18 zr_144_9 (by omega) ?_
          refine zw_16 zr_144_10 (by omega) ?_
          refine zw_3 zr_144_11 rfl ?_
          refine zw_16 zr_144_12 (by omega) ?_
          refine zw_48k (c := 70) (len := 826) zr_144_13 rfl rfl (by omega) (by omega) rfl ex10.symm ?_
          refine zw_R zr_144_14 (by decide) zm_144 (v := (0, x10)) rfl ?_
          rw [← hQ1]
          show zW E (d) 197 54 [(2, 69), (0, a0), (0, a1), (0, i1), (0, i2), (9, 0)] [(0, x10)] m0 Q
          refine zw_3 zr_197_54 rfl ?_
          refine zw_41_4 zr_197_55 ?_ ?_
          · intro h12
            refine zw_push zr_197_83 ?_
            refine zw_10 (L' := [(2, 69), (0, a0), (0, a1), (0, i1), (0, i2), (0, 0)]) zr_197_84 (Nat.le_of_ble_eq_true rfl) rfl ?_
            refine zw_3 zr_197_86 rfl ?_
            refine zw_40_4 zr_197_87 ?_ ?_
            · intro h13
              refine zw_push zr_197_105 ?_
              refine zw_42 zr_197_106 ?_
              refine zw_9 (L' := [(2, 69), (0, a0), (0, a1), (0, 1), (0, i2), (0, 0)]) zr_197_110 (Nat.le_of_ble_eq_true rfl) rfl ?_
              refine zw_15 (c := 1) (L' := [(2, 69), (0, a0), (0, a1), (0, 1), (0, (i2 + 1)), (0, 0)]) zr_197_111 rfl (by decide) (by omega) rfl ?_
              refine zw_42 zr_197_114 ?_
              exact zw_less (L := [(2, 69), (0, a0), (0, a1), (0, 1), (0, (i2 + 1)), (9, 0)]) ⟨Or.inr rfl, Or.inr rfl, Or.inr rfl, Or.inr rfl, Or.inr rfl, Or.inl rfl, trivial⟩ (ihlp5_3 (1) ((i2 + 1))  (by omega) (by omega) (by omega) (by omega) (by omega) (by omega) (by omega))
            · intro h14
              refine zw_4 zr_197_90 rfl ?_
              refine zw_40_1 zr_197_92 ?_ ?_
              · intro h15
                refine zw_push zr_197_109 ?_
                refine zw_9 (L' := [(2, 69), (0, a0), (0, a1), (0, 0), (0, i2), (0, 0)]) zr_197_110 (Nat.le_of_ble_eq_true rfl) rfl ?_
                refine zw_15 (c := 1) (L' := [(2, 69), (0, a0), (0, a1), (0, 0), (0, (i2 + 1)), (0, 0)]) zr_197_111 rfl (by decide) (by omega) rfl ?_
                refine zw_42 zr_197_114 ?_
                exact zw_less (L := [(2, 69), (0, a0), (0, a1), (0, 0), (0, (i2 + 1)), (9, 0)]) ⟨Or.inr rfl, Or.inr rfl, Or.inr rfl, Or.inr rfl, Or.inr rfl, Or.inl rfl, trivial⟩ (ihlp5_3 (0) ((i2 + 1))  (by omega) (by omega) (by omega) (by omega) (by omega) (by omega) (by omega))
              · intro h16; omega
          · intro h17
            refine zw_7 zr_197_58 rfl ?_
            refine zw_4 zr_197_59 rfl ?_
            refine zw_push zr_197_61 ?_
            refine zw_C zr_197_62 (Or.inl rfl) zm_144 rfl rfl ⟨Nat.le_of_ble_eq_true rfl, Nat.le_of_ble_eq_true rfl, Nat.le_of_ble_eq_true rfl, rfl, by decide⟩ (by omega) (P := (fun v m' => zW E (d) 197 65 [(2, 69), (0, a0), (0, a1), (0, i1), (0, i2), (9, 0)] (if v.1 = 9 then [] else v :: []) m' Q)) ?_ (fun _ _ h => h)
            generalize hQ1 : (fun v m' => zW E (d) 197 65 [(2, 69), (0, a0), (0, a1), (0, i1), (0, i2), (9, 0)] (if v.1 = 9 then [] else v :: []) m' Q) = Q1
            show zW E (d - 1) 144 0 [(2, 69), (0, i2), (0, 2)] [] m0 Q1
            refine zw_7 zr_144_0 rfl ?_
            refine zw_46r (s := 70) zr_144_1 rfl rfl rfl rfl ?_
            refine zw_push zr_144_4 ?_
            refine zw_push zr_144_6 ?_
            refine zw_3 zr_144_8 rfl ?_
            refine zw_18 zr_144_9 (by omega) ?_
            refine zw_16 zr_144_10 (by omega) ?_
            refine zw_3 zr_144_11 rfl ?_
            refine zw_16 zr_144_12 (by omega) ?_
            refine zw_48 (c := 70) (len := 826) zr_144_13 rfl rfl (by omega) (by omega) ?_
            intro x18 ex18
            have bx18 := ib_70_m2 hI0 (k := (((90 + (6 * i2)) + 2)).toNat) (by omega)
            rw [← ex18] at bx18
            have qx18 : x18 = F70 (((90 + (6 * i2)) + 2)).toNat := by rw [← hG70]; exact ex18
            refine zw_R zr_144_14 (by decide) zm_144 (v := (0, x18)) rfl ?_
            rw [← hQ1]
            show zW E (d) 197 65 [(2, 69), (0, a0), (0, a1), (0, i1), (0, i2), (9, 0)] [(0, x18)] m0 Q
            refine zw_3 zr_197_65 rfl ?_
            refine zw_41_4 zr_197_66 ?_ ?_
            · intro h19
              refine zw_push zr_197_83 ?_
              refine zw_10 (L' := [(2, 69), (0, a0), (0, a1), (0, i1), (0, i2), (0, 0)]) zr_197_84 (Nat.le_of_ble_eq_true rfl) rfl ?_
              refine zw_3 zr_197_86 rfl ?_
              refine zw_40_4 zr_197_87 ?_ ?_
              · intro h20
                refine zw_push zr_197_105 ?_
                refine zw_42 zr_197_106 ?_
                refine zw_9 (L' := [(2, 69), (0, a0), (0, a1), (0, 1), (0, i2), (0, 0)]) zr_197_110 (Nat.le_of_ble_eq_true rfl) rfl ?_
                refine zw_15 (c := 1) (L' := [(2, 69), (0, a0), (0, a1), (0, 1), (0, (i2 + 1)), (0, 0)]) zr_197_111 rfl (by decide) (by omega) rfl ?_
                refine zw_42 zr_197_114 ?_
                exact zw_less (L := [(2, 69), (0, a0), (0, a1), (0, 1), (0, (i2 + 1)), (9, 0)]) ⟨Or.inr rfl, Or.inr rfl, Or.inr rfl, Or.inr rfl, Or.inr rfl, Or.inl rfl, trivial⟩ (ihlp5_3 (1) ((i2 + 1))  (by omega) (by omega) (by omega) (by omega) (by omega) (by omega) (by omega))
              · intro h21
                refine zw_4 zr_197_90 rfl ?_
                refine zw_40_1 zr_197_92 ?_ ?_
                · intro h22
                  refine zw_push zr_197_109 ?_
                  refine zw_9 (L' := [(2, 69), (0, a0), (0, a1), (0, 0), (0, i2), (0, 0)]) zr_197_110 (Nat.le_of_ble_eq_true rfl) rfl ?_
                  refine zw_15 (c := 1) (L' := [(2, 69), (0, a0), (0, a1), (0, 0), (0, (i2 + 1)), (0, 0)]) zr_197_111 rfl (by decide) (by omega) rfl ?_
                  refine zw_42 zr_197_114 ?_
                  exact zw_less (L := [(2, 69), (0, a0), (0, a1), (0, 0), (0, (i2 + 1)), (9, 0)]) ⟨Or.inr rfl, Or.inr rfl, Or.inr rfl, Or.inr rfl, Or.inr rfl, Or.inl rfl, trivial⟩ (ihlp5_3 (0) ((i2 + 1))  (by omega) (by omega) (by omega) (by omega) (by omega) (by omega) (by omega))
                · intro h23; omega
            · intro h24
              refine zw_7 zr_197_69 rfl ?_
              refine zw_4 zr_197_70 rfl ?_
              refine zw_push zr_197_72 ?_
              refine zw_C zr_197_73 (Or.inl rfl) zm_144 rfl rfl ⟨Nat.le_of_ble_eq_true rfl, Nat.le_of_ble_eq_true rfl, Nat.le_of_ble_eq_true rfl, rfl, by decide⟩ (by omega) (P := (fun v m' => zW E (d) 197 76 [(2, 69), (0, a0), (0, a1), (0, i1), (0, i2), (9, 0)] (if v.1 = 9 then [] else v :: []) m' Q)) ?_ (fun _ _ h => h)
              generalize hQ1 : (fun v m' => zW E (d) 197 76 [(2, 69), (0, a0), (0, a1), (0, i1), (0, i2), (9, 0)] (if v.1 = 9 then [] else v :: []) m' Q) = Q1
              show zW E (d - 1) 144 0 [(2, 69), (0, i2), (0, 3)] [] m0 Q1
              refine zw_7 zr_144_0 rfl ?_
              refine zw_46r (s := 70) zr_144_1 rfl rfl rfl rfl ?_
              refine zw_push zr_144_4 ?_
              refine zw_push zr_144_6 ?_
              refine zw_3 zr_144_8 rfl ?_
              refine zw_18 zr_144_9 (by omega) ?_
              refine zw_16 zr_144_10 (by omega) ?_
              refine zw_3 zr_144_11 rfl ?_
              refine zw_16 zr_144_12 (by omega) ?_
              refine zw_48 (c := 70) (len := 826) zr_144_13 rfl rfl (by omega) (by omega) ?_
              intro x25 ex25
              have bx25 := ib_70_m3 hI0 (k := (((90 + (6 * i2)) + 3)).toNat) (by omega)
              rw [← ex25] at bx25
              have qx25 : x25 = F70 (((90 + (6 * i2)) + 3)).toNat := by rw [← hG70]; exact ex25
              refine zw_R zr_144_14 (by decide) zm_144 (v := (0, x25)) rfl ?_
              rw [← hQ1]
              show zW E (d) 197 76 [(2, 69), (0, a0), (0, a1), (0, i1), (0, i2), (9, 0)] [(0, x25)] m0 Q
              refine zw_40_4 zr_197_76 ?_ ?_
              · intro h26
                refine zw_push zr_197_83 ?_
                refine zw_10 (L' := [(2, 69), (0, a0), (0, a1), (0, i1), (0, i2), (0, 0)]) zr_197_84 (Nat.le_of_ble_eq_true rfl) rfl ?_
                refine zw_3 zr_197_86 rfl ?_
                refine zw_40_4 zr_197_87 ?_ ?_
                · intro h27
                  refine zw_push zr_197_105 ?_
                  refine zw_42 zr_197_106 ?_
                  refine zw_9 (L' := [(2, 69), (0, a0), (0, a1), (0, 1), (0, i2), (0, 0)]) zr_197_110 (Nat.le_of_ble_eq_true rfl) rfl ?_
                  refine zw_15 (c := 1) (L' := [(2, 69), (0, a0), (0, a1), (0, 1), (0, (i2 + 1)), (0, 0)]) zr_197_111 rfl (by decide) (by omega) rfl ?_
                  refine zw_42 zr_197_114 ?_
                  exact zw_less (L := [(2, 69), (0, a0), (0, a1), (0, 1), (0, (i2 + 1)), (9, 0)]) ⟨Or.inr rfl, Or.inr rfl, Or.inr rfl, Or.inr rfl, Or.inr rfl, Or.inl rfl, trivial⟩ (ihlp5_3 (1) ((i2 + 1))  (by omega) (by omega) (by omega) (by omega) (by omega) (by omega) (by omega))
                · intro h28
                  refine zw_4 zr_197_90 rfl ?_
                  refine zw_40_1 zr_197_92 ?_ ?_
                  · intro h29
                    refine zw_push zr_197_109 ?_
                    refine zw_9 (L' := [(2, 69), (0, a0), (0, a1), (0, 0), (0, i2), (0, 0)]) zr_197_110 (Nat.le_of_ble_eq_true rfl) rfl ?_
                    refine zw_15 (c := 1) (L' := [(2, 69), (0, a0), (0, a1), (0, 0), (0, (i2 + 1)), (0, 0)]) zr_197_111 rfl (by decide) (by omega) rfl ?_
                    refine zw_42 zr_197_114 ?_
                    exact zw_less (L := [(2, 69), (0, a0), (0, a1), (0, 0), (0, (i2 + 1)), (9, 0)]) ⟨Or.inr rfl, Or.inr rfl, Or.inr rfl, Or.inr rfl, Or.inr rfl, Or.inl rfl, trivial⟩ (ihlp5_3 (0) ((i2 + 1))  (by omega) (by omega) (by omega) (by omega) (by omega) (by omega) (by omega))
                  · intro h30; omega
              · intro h31
                refine zw_push zr_197_79 ?_
                refine zw_42 zr_197_80 ?_
                refine zw_10 (L' := [(2, 69), (0, a0), (0, a1), (0, i1), (0, i2), (0, 1)]) zr_197_84 (Nat.le_of_ble_eq_true rfl) rfl ?_
                refine zw_3 zr_197_86 rfl ?_
                refine zw_40_4 zr_197_87 ?_ ?_
                · intro h32
                  refine zw_push zr_197_105 ?_
                  refine zw_42 zr_197_106 ?_
                  refine zw_9 (L' := [(2, 69), (0, a0), (0, a1), (0, 1), (0, i2), (0, 1)]) zr_197_110 (Nat.le_of_ble_eq_true rfl) rfl ?_
                  refine zw_15 (c := 1) (L' := [(2, 69), (0, a0), (0, a1), (0, 1), (0, (i2 + 1)), (0, 1)]) zr_197_111 rfl (by decide) (by omega) rfl ?_
                  refine zw_42 zr_197_114 ?_
                  exact zw_less (L := [(2, 69), (0, a0), (0, a1), (0, 1), (0, (i2 + 1)), (9, 0)]) ⟨Or.inr rfl, Or.inr rfl, Or.inr rfl, Or.inr rfl, Or.inr rfl, Or.inl rfl, trivial⟩ (ihlp5_3 (1) ((i2 + 1))  (by omega) (by omega) (by omega) (by omega) (by omega) (by omega) (by omega))
                · intro h33
                  refine zw_4 zr_197_90 rfl ?_
                  refine zw_40_1 zr_197_92 ?_ ?_
                  · intro h34; omega
                  · intro h35
                    refine zw_7 zr_197_95 rfl ?_
                    refine zw_4 zr_197_96 rfl ?_
                    refine zw_push zr_197_98 ?_
                    refine zw_C zr_197_99 (Or.inl rfl) zm_144 rfl rfl ⟨Nat.le_of_ble_eq_true rfl, Nat.le_of_ble_eq_true rfl, Nat.le_of_ble_eq_true rfl, rfl, by decide⟩ (by omega) (P := (fun v m' => zW E (d) 197 102 [(2, 69), (0, a0), (0, a1), (0, i1), (0, i2), (0, 1)] (if v.1 = 9 then [] else v :: []) m' Q)) ?_ (fun _ _ h => h)
                    generalize hQ1 : (fun v m' => zW E (d) 197 102 [(2, 69), (0, a0), (0, a1), (0, i1), (0, i2), (0, 1)] (if v.1 = 9 then [] else v :: []) m' Q) = Q1
                    show zW E (d - 1) 144 0 [(2, 69), (0, i2), (0, 4)] [] m0 Q1
                    refine zw_7 zr_144_0 rfl ?_
                    refine zw_46r (s := 70) zr_144_1 rfl rfl rfl rfl ?_
                    refine zw_push zr_144_4 ?_
                    refine zw_push zr_144_6 ?_
                    refine zw_3 zr_144_8 rfl ?_
                    refine zw_18 zr_144_9 (by omega) ?_
                    refine zw_16 zr_144_10 (by omega) ?_
                    refine zw_3 zr_144_11 rfl ?_
                    refine zw_16 zr_144_12 (by omega) ?_
                    refine zw_48 (c := 70) (len := 826) zr_144_13 rfl rfl (by omega) (by omega) ?_
                    intro x36 ex36
                    have bx36 := ib_70_m4 hI0 (k := (((90 + (6 * i2)) + 4)).toNat) (by omega)
                    rw [← ex36] at bx36
                    have qx36 : x36 = F70 (((90 + (6 * i2)) + 4)).toNat := by rw [← hG70]; exact ex36
                    refine zw_R zr_144_14 (by decide) zm_144 (v := (0, x36)) rfl ?_
                    rw [← hQ1]
                    show zW E (d) 197 102 [(2, 69), (0, a0), (0, a1), (0, i1), (0, i2), (0, 1)] [(0, x36)] m0 Q
                    refine zw_40_4 zr_197_102 ?_ ?_
                    · intro h37
                      refine zw_push zr_197_109 ?_
                      refine zw_9 (L' := [(2, 69), (0, a0), (0, a1), (0, 0), (0, i2), (0, 1)]) zr_197_110 (Nat.le_of_ble_eq_true rfl) rfl ?_
                      refine zw_15 (c := 1) (L' := [(2, 69), (0, a0), (0, a1), (0, 0), (0, (i2 + 1)), (0, 1)]) zr_197_111 rfl (by decide) (by omega) rfl ?_
                      refine zw_42 zr_197_114 ?_
                      exact zw_less (L := [(2, 69), (0, a0), (0, a1), (0, 0), (0, (i2 + 1)), (9, 0)]) ⟨Or.inr rfl, Or.inr rfl, Or.inr rfl, Or.inr rfl, Or.inr rfl, Or.inl rfl, trivial⟩ (ihlp5_3 (0) ((i2 + 1))  (by omega) (by omega) (by omega) (by omega) (by omega) (by omega) (by omega))
                    · intro h38
                      refine zw_push zr_197_105 ?_
                      refine zw_42 zr_197_106 ?_
                      refine zw_9 (L' := [(2, 69), (0, a0), (0, a1), (0, 1), (0, i2), (0, 1)]) zr_197_110 (Nat.le_of_ble_eq_true rfl) rfl ?_
                      refine zw_15 (c := 1) (L' := [(2, 69), (0, a0), (0, a1), (0, 1), (0, (i2 + 1)), (0, 1)]) zr_197_111 rfl (by decide) (by omega) rfl ?_
                      refine zw_42 zr_197_114 ?_
                      exact zw_less (L := [(2, 69), (0, a0), (0, a1), (0, 1), (0, (i2 + 1)), (9, 0)]) ⟨Or.inr rfl, Or.inr rfl, Or.inr rfl, Or.inr rfl, Or.inr rfl, Or.inl rfl, trivial⟩ (ihlp5_3 (1) ((i2 + 1))  (by omega) (by omega) (by omega) (by omega) (by omega) (by omega) (by omega))
        · intro h39
          refine zw_7 zr_197_25 rfl ?_
          refine zw_4 zr_197_26 rfl ?_
          refine zw_push zr_197_28 ?_
          refine zw_C zr_197_29 (Or.inl rfl) zm_144 rfl rfl ⟨Nat.le_of_ble_eq_true rfl, Nat.le_of_ble_eq_true rfl, Nat.le_of_ble_eq_true rfl, rfl, by decide⟩ (by omega) (P := (fun v m' => zW E (d) 197 32 [(2, 69), (0, a0), (0, a1), (0, i1), (0, i2), (9, 0)] (if v.1 = 9 then [] else v :: []) m' Q)) ?_ (fun _ _ h => h)
          generalize hQ1 : (fun v m' => zW E (d) 197 32 [(2, 69), (0, a0), (0, a1), (0, i1), (0, i2), (9, 0)] (if v.1 = 9 then [] else v :: []) m' Q) = Q1
          show zW E (d - 1) 144 0 [(2, 69), (0, i2), (0, 2)] [] m0 Q1
          refine zw_7 zr_144_0 rfl ?_
          refine zw_46r (s := 70) zr_144_1 rfl rfl rfl rfl ?_
          refine zw_push zr_144_4 ?_
          refine zw_push zr_144_6 ?_
          refine zw_3 zr_144_8 rfl ?_
          refine zw_18 zr_144_9 (by omega) ?_
          refine zw_16 zr_144_10 (by omega) ?_
          refine zw_3 zr_144_11 rfl ?_
          refine zw_16 zr_144_12 (by omega) ?_
          refine zw_48 (c := 70) (len := 826) zr_144_13 rfl rfl (by omega) (by omega) ?_
          intro x40 ex40
          have bx40 := ib_70_m2 hI0 (k := (((90 + (6 * i2)) + 2)).toNat) (by omega)
          rw [← ex40] at bx40
          have qx40 : x40 = F70 (((90 + (6 * i2)) + 2)).toNat := by rw [← hG70]; exact ex40
          refine zw_R zr_144_14 (by decide) zm_144 (v := (0, x40)) rfl ?_
          rw [← hQ1]
          show zW E (d) 197 32 [(2, 69), (0, a0), (0, a1), (0, i1), (0, i2), (9, 0)] [(0, x40)] m0 Q
          refine zw_3 zr_197_32 rfl ?_
          refine zw_41_4 zr_197_33 ?_ ?_
          · intro h41
            refine zw_7 zr_197_47 rfl ?_
            refine zw_4 zr_197_48 rfl ?_
            refine zw_push zr_197_50 ?_
            refine zw_C zr_197_51 (Or.inl rfl) zm_144 rfl rfl ⟨Nat.le_of_ble_eq_true rfl, Nat.le_of_ble_eq_true rfl, Nat.le_of_ble_eq_true rfl, rfl, by decide⟩ (by omega) (P := (fun v m' => zW E (d) 197 54 [(2, 69), (0, a0), (0, a1), (0, i1), (0, i2), (9, 0)] (if v.1 = 9 then [] else v :: []) m' Q)) ?_ (fun _ _ h => h)
            generalize hQ1 : (fun v m' => zW E (d) 197 54 [(2, 69), (0, a0), (0, a1), (0, i1), (0, i2), (9, 0)] (if v.1 = 9 then [] else v :: []) m' Q) = Q1
            show zW E (d - 1) 144 0 [(2, 69), (0, i2), (0, 1)] [] m0 Q1
            refine zw_7 zr_144_0 rfl ?_
            refine zw_46r (s := 70) zr_144_1 rfl rfl rfl rfl ?_
            refine zw_push zr_144_4 ?_
            refine zw_push zr_144_6 ?_
            refine zw_3 zr_144_8 rfl ?_
            refine zw_18 zr_144_9 (by omega) ?_
            refine zw_16 zr_144_10 (by omega) ?_
            refine zw_3 zr_144_11 rfl ?_
            refine zw_16 zr_144_12 (by omega) ?_
            refine zw_48k (c := 70) (len := 826) zr_144_13 rfl rfl (by omega) (by omega) rfl ex10.symm ?_
            refine zw_R zr_144_14 (by decide) zm_144 (v := (0, x10)) rfl ?_
            rw [← hQ1]
            show zW E (d) 197 54 [(2, 69), (0, a0), (0, a1), (0, i1), (0, i2), (9, 0)] [(0, x10)] m0 Q
            refine zw_3 zr_197_54 rfl ?_
            refine zw_41_4 zr_197_55 ?_ ?_
            · intro h42
              refine zw_push zr_197_83 ?_
              refine zw_10 (L' := [(2, 69), (0, a0), (0, a1), (0, i1), (0, i2), (0, 0)]) zr_197_84 (Nat.le_of_ble_eq_true rfl) rfl ?_
              refine zw_3 zr_197_86 rfl ?_
              refine zw_40_4 zr_197_87 ?_ ?_
              · intro h43
                refine zw_push zr_197_105 ?_
                refine zw_42 zr_197_106 ?_
                refine zw_9 (L' := [(2, 69), (0, a0), (0, a1), (0, 1), (0, i2), (0, 0)]) zr_197_110 (Nat.le_of_ble_eq_true rfl) rfl ?_
                refine zw_15 (c := 1) (L' := [(2, 69), (0, a0), (0, a1), (0, 1), (0, (i2 + 1)), (0, 0)]) zr_197_111 rfl (by decide) (by omega) rfl ?_
                refine zw_42 zr_197_114 ?_
                exact zw_less (L := [(2, 69), (0, a0), (0, a1), (0, 1), (0, (i2 + 1)), (9, 0)]) ⟨Or.inr rfl, Or.inr rfl, Or.inr rfl, Or.inr rfl, Or.inr rfl, Or.inl rfl, trivial⟩ (ihlp5_3 (1) ((i2 + 1))  (by omega) (by omega) (by omega) (by omega) (by omega) (by omega) (by omega))
              · intro h44
                refine zw_4 zr_197_90 rfl ?_
                refine zw_40_1 zr_197_92 ?_ ?_
                · intro h45
                  refine zw_push zr_197_109 ?_
                  refine zw_9 (L' := [(2, 69), (0, a0), (0, a1), (0, 0), (0, i2), (0, 0)]) zr_197_110 (Nat.le_of_ble_eq_true rfl) rfl ?_
                  refine zw_15 (c := 1) (L' := [(2, 69), (0, a0), (0, a1), (0, 0), (0, (i2 + 1)), (0, 0)]) zr_197_111 rfl (by decide) (by omega) rfl ?_
                  refine zw_42 zr_197_114 ?_
                  exact zw_less (L := [(2, 69), (0, a0), (0, a1), (0, 0), (0, (i2 + 1)), (9, 0)]) ⟨Or.inr rfl, Or.inr rfl, Or.inr rfl, Or.inr rfl, Or.inr rfl, Or.inl rfl, trivial⟩ (ihlp5_3 (0) ((i2 + 1))  (by omega) (by omega) (by omega) (by omega) (by omega) (by omega) (by omega))
                · intro h46; omega
            · intro h47
              refine zw_7 zr_197_58 rfl ?_
              refine zw_4 zr_197_59 rfl ?_
              refine zw_push zr_197_61 ?_
              refine zw_C zr_197_62 (Or.inl rfl) zm_144 rfl rfl ⟨Nat.le_of_ble_eq_true rfl, Nat.le_of_ble_eq_true rfl, Nat.le_of_ble_eq_true rfl, rfl, by decide⟩ (by omega) (P := (fun v m' => zW E (d) 197 65 [(2, 69), (0, a0), (0, a1), (0, i1), (0, i2), (9, 0)] (if v.1 = 9 then [] else v :: []) m' Q)) ?_ (fun _ _ h => h)
              generalize hQ1 : (fun v m' => zW E (d) 197 65 [(2, 69), (0, a0), (0, a1), (0, i1), (0, i2), (9, 0)] (if v.1 = 9 then [] else v :: []) m' Q) = Q1
              show zW E (d - 1) 144 0 [(2, 69), (0, i2), (0, 2)] [] m0 Q1
              refine zw_7 zr_144_0 rfl ?_
              refine zw_46r (s := 70) zr_144_1 rfl rfl rfl rfl ?_
              refine zw_push zr_144_4 ?_
              refine zw_push zr_144_6 ?_
              refine zw_3 zr_144_8 rfl ?_
              refine zw_18 zr_144_9 (by omega) ?_
              refine zw_16 zr_144_10 (by omega) ?_
              refine zw_3 zr_144_11 rfl ?_
              refine zw_16 zr_144_12 (by omega) ?_
              refine zw_48k (c := 70) (len := 826) zr_144_13 rfl rfl (by omega) (by omega) rfl ex40.symm ?_
              refine zw_R zr_144_14 (by decide) zm_144 (v := (0, x40)) rfl ?_
              rw [← hQ1]
              show zW E (d) 197 65 [(2, 69), (0, a0), (0, a1), (0, i1), (0, i2), (9, 0)] [(0, x40)] m0 Q
              refine zw_3 zr_197_65 rfl ?_
              refine zw_41_4 zr_197_66 ?_ ?_
              · intro h48
                refine zw_push zr_197_83 ?_
                refine zw_10 (L' := [(2, 69), (0, a0), (0, a1), (0, i1), (0, i2), (0, 0)]) zr_197_84 (Nat.le_of_ble_eq_true rfl) rfl ?_
                refine zw_3 zr_197_86 rfl ?_
                refine zw_40_4 zr_197_87 ?_ ?_
                · intro h49
                  refine zw_push zr_197_105 ?_
                  refine zw_42 zr_197_106 ?_
                  refine zw_9 (L' := [(2, 69), (0, a0), (0, a1), (0, 1), (0, i2), (0, 0)]) zr_197_110 (Nat.le_of_ble_eq_true rfl) rfl ?_
                  refine zw_15 (c := 1) (L' := [(2, 69), (0, a0), (0, a1), (0, 1), (0, (i2 + 1)), (0, 0)]) zr_197_111 rfl (by decide) (by omega) rfl ?_
                  refine zw_42 zr_197_114 ?_
                  exact zw_less (L := [(2, 69), (0, a0), (0, a1), (0, 1), (0, (i2 + 1)), (9, 0)]) ⟨Or.inr rfl, Or.inr rfl, Or.inr rfl, Or.inr rfl, Or.inr rfl, Or.inl rfl, trivial⟩ (ihlp5_3 (1) ((i2 + 1))  (by omega) (by omega) (by omega) (by omega) (by omega) (by omega) (by omega))
                · intro h50
                  refine zw_4 zr_197_90 rfl ?_
                  refine zw_40_1 zr_197_92 ?_ ?_
                  · intro h51
                    refine zw_push zr_197_109 ?_
                    refine zw_9 (L' := [(2, 69), (0, a0), (0, a1), (0, 0), (0, i2), (0, 0)]) zr_197_110 (Nat.le_of_ble_eq_true rfl) rfl ?_
                    refine zw_15 (c := 1) (L' := [(2, 69), (0, a0), (0, a1), (0, 0), (0, (i2 + 1)), (0, 0)]) zr_197_111 rfl (by decide) (by omega) rfl ?_
                    refine zw_42 zr_197_114 ?_
                    exact zw_less (L := [(2, 69), (0, a0), (0, a1), (0, 0), (0, (i2 + 1)), (9, 0)]) ⟨Or.inr rfl, Or.inr rfl, Or.inr rfl, Or.inr rfl, Or.inr rfl, Or.inl rfl, trivial⟩ (ihlp5_3 (0) ((i2 + 1))  (by omega) (by omega) (by omega) (by omega) (by omega) (by omega) (by omega))
                  · intro h52; omega
              · intro h53
                refine zw_7 zr_197_69 rfl ?_
                refine zw_4 zr_197_70 rfl ?_
                refine zw_push zr_197_72 ?_
                refine zw_C zr_197_73 (Or.inl rfl) zm_144 rfl rfl ⟨Nat.le_of_ble_eq_true rfl, Nat.le_of_ble_eq_true rfl, Nat.le_of_ble_eq_true rfl, rfl, by decide⟩ (by omega) (P := (fun v m' => zW E (d) 197 76 [(2, 69), (0, a0), (0, a1), (0, i1), (0, i2), (9, 0)] (if v.1 = 9 then [] else v :: []) m' Q)) ?_ (fun _ _ h => h)
                generalize hQ1 : (fun v m' => zW E (d) 197 76 [(2, 69), (0, a0), (0, a1), (0, i1), (0, i2), (9, 0)] (if v.1 = 9 then [] else v :: []) m' Q) = Q1
                show zW E (d - 1) 144 0 [(2, 69), (0, i2), (0, 3)] [] m0 Q1
                refine zw_7 zr_144_0 rfl ?_
                refine zw_46r (s := 70) zr_144_1 rfl rfl rfl rfl ?_
                refine zw_push zr_144_4 ?_
                refine zw_push zr_144_6 ?_
                refine zw_3 zr_144_8 rfl ?_
                refine zw_18 zr_144_9 (by omega) ?_
                refine zw_16 zr_144_10 (by omega) ?_
                refine zw_3 zr_144_11 rfl ?_
                refine zw_16 zr_144_12 (by omega) ?_
                refine zw_48 (c := 70) (len := 826) zr_144_13 rfl rfl (by omega) (by omega) ?_
                intro x54 ex54
                have bx54 := ib_70_m3 hI0 (k := (((90 + (6 * i2)) + 3)).toNat) (by omega)
                rw [← ex54] at bx54
                have qx54 : x54 = F70 (((90 + (6 * i2)) + 3)).toNat := by rw [← hG70]; exact ex54
                refine zw_R zr_144_14 (by decide) zm_144 (v := (0, x54)) rfl ?_
                rw [← hQ1]
                show zW E (d) 197 76 [(2, 69), (0, a0), (0, a1), (0, i1), (0, i2), (9, 0)] [(0, x54)] m0 Q
                refine zw_40_4 zr_197_76 ?_ ?_
                · intro h55
                  refine zw_push zr_197_83 ?_
                  refine zw_10 (L' := [(2, 69), (0, a0), (0, a1), (0, i1), (0, i2), (0, 0)]) zr_197_84 (Nat.le_of_ble_eq_true rfl) rfl ?_
                  refine zw_3 zr_197_86 rfl ?_
                  refine zw_40_4 zr_197_87 ?_ ?_
                  · intro h56
                    refine zw_push zr_197_105 ?_
                    refine zw_42 zr_197_106 ?_
                    refine zw_9 (L' := [(2, 69), (0, a0), (0, a1), (0, 1), (0, i2), (0, 0)]) zr_197_110 (Nat.le_of_ble_eq_true rfl) rfl ?_
                    refine zw_15 (c := 1) (L' := [(2, 69), (0, a0), (0, a1), (0, 1), (0, (i2 + 1)), (0, 0)]) zr_197_111 rfl (by decide) (by omega) rfl ?_
                    refine zw_42 zr_197_114 ?_
                    exact zw_less (L := [(2, 69), (0, a0), (0, a1), (0, 1), (0, (i2 + 1)), (9, 0)]) ⟨Or.inr rfl, Or.inr rfl, Or.inr rfl, Or.inr rfl, Or.inr rfl, Or.inl rfl, trivial⟩ (ihlp5_3 (1) ((i2 + 1))  (by omega) (by omega) (by omega) (by omega) (by omega) (by omega) (by omega))
                  · intro h57
                    refine zw_4 zr_197_90 rfl ?_
                    refine zw_40_1 zr_197_92 ?_ ?_
                    · intro h58
                      refine zw_push zr_197_109 ?_
                      refine zw_9 (L' := [(2, 69), (0, a0), (0, a1), (0, 0), (0, i2), (0, 0)]) zr_197_110 (Nat.le_of_ble_eq_true rfl) rfl ?_
                      refine zw_15 (c := 1) (L' := [(2, 69), (0, a0), (0, a1), (0, 0), (0, (i2 + 1)), (0, 0)]) zr_197_111 rfl (by decide) (by omega) rfl ?_
                      refine zw_42 zr_197_114 ?_
                      exact zw_less (L := [(2, 69), (0, a0), (0, a1), (0, 0), (0, (i2 + 1)), (9, 0)]) ⟨Or.inr rfl, Or.inr rfl, Or.inr rfl, Or.inr rfl, Or.inr rfl, Or.inl rfl, trivial⟩ (ihlp5_3 (0) ((i2 + 1))  (by omega) (by omega) (by omega) (by omega) (by omega) (by omega) (by omega))
                    · intro h59; omega
                · intro h60
                  refine zw_push zr_197_79 ?_
                  refine zw_42 zr_197_80 ?_
                  refine zw_10 (L' := [(2, 69), (0, a0), (0, a1), (0, i1), (0, i2), (0, 1)]) zr_197_84 (Nat.le_of_ble_eq_true rfl) rfl ?_
                  refine zw_3 zr_197_86 rfl ?_
                  refine zw_40_4 zr_197_87 ?_ ?_
                  · intro h61
                    refine zw_push zr_197_105 ?_
                    refine zw_42 zr_197_106 ?_
                    refine zw_9 (L' := [(2, 69), (0, a0), (0, a1), (0, 1), (0, i2), (0, 1)]) zr_197_110 (Nat.le_of_ble_eq_true rfl) rfl ?_
                    refine zw_15 (c := 1) (L' := [(2, 69), (0, a0), (0, a1), (0, 1), (0, (i2 + 1)), (0, 1)]) zr_197_111 rfl (by decide) (by omega) rfl ?_
                    refine zw_42 zr_197_114 ?_
                    exact zw_less (L := [(2, 69), (0, a0), (0, a1), (0, 1), (0, (i2 + 1)), (9, 0)]) ⟨Or.inr rfl, Or.inr rfl, Or.inr rfl, Or.inr rfl, Or.inr rfl, Or.inl rfl, trivial⟩ (ihlp5_3 (1) ((i2 + 1))  (by omega) (by omega) (by omega) (by omega) (by omega) (by omega) (by omega))
                  · intro h62
                    refine zw_4 zr_197_90 rfl ?_
                    refine zw_40_1 zr_197_92 ?_ ?_
                    · intro h63; omega
                    · intro h64
                      refine zw_7 zr_197_95 rfl ?_
                      refine zw_4 zr_197_96 rfl ?_
                      refine zw_push zr_197_98 ?_
                      refine zw_C zr_197_99 (Or.inl rfl) zm_144 rfl rfl ⟨Nat.le_of_ble_eq_true rfl, Nat.le_of_ble_eq_true rfl, Nat.le_of_ble_eq_true rfl, rfl, by decide⟩ (by omega) (P := (fun v m' => zW E (d) 197 102 [(2, 69), (0, a0), (0, a1), (0, i1), (0, i2), (0, 1)] (if v.1 = 9 then [] else v :: []) m' Q)) ?_ (fun _ _ h => h)
                      generalize hQ1 : (fun v m' => zW E (d) 197 102 [(2, 69), (0, a0), (0, a1), (0, i1), (0, i2), (0, 1)] (if v.1 = 9 then [] else v :: []) m' Q) = Q1
                      show zW E (d - 1) 144 0 [(2, 69), (0, i2), (0, 4)] [] m0 Q1
                      refine zw_7 zr_144_0 rfl ?_
                      refine zw_46r (s := 70) zr_144_1 rfl rfl rfl rfl ?_
                      refine zw_push zr_144_4 ?_
                      refine zw_push zr_144_6 ?_
                      refine zw_3 zr_144_8 rfl ?_
                      refine zw_18 zr_144_9 (by omega) ?_
                      refine zw_16 zr_144_10 (by omega) ?_
                      refine zw_3 zr_144_11 rfl ?_
                      refine zw_16 zr_144_12 (by omega) ?_
                      refine zw_48 (c := 70) (len := 826) zr_144_13 rfl rfl (by omega) (by omega) ?_
                      intro x65 ex65
                      have bx65 := ib_70_m4 hI0 (k := (((90 + (6 * i2)) + 4)).toNat) (by omega)
                      rw [← ex65] at bx65
                      have qx65 : x65 = F70 (((90 + (6 * i2)) + 4)).toNat := by rw [← hG70]; exact ex65
                      refine zw_R zr_144_14 (by decide) zm_144 (v := (0, x65)) rfl ?_
                      rw [← hQ1]
                      show zW E (d) 197 102 [(2, 69), (0, a0), (0, a1), (0, i1), (0, i2), (0, 1)] [(0, x65)] m0 Q
                      refine zw_40_4 zr_197_102 ?_ ?_
                      · intro h66
                        refine zw_push zr_197_109 ?_
                        refine zw_9 (L' := [(2, 69), (0, a0), (0, a1), (0, 0), (0, i2), (0, 1)]) zr_197_110 (Nat.le_of_ble_eq_true rfl) rfl ?_
                        refine zw_15 (c := 1) (L' := [(2, 69), (0, a0), (0, a1), (0, 0), (0, (i2 + 1)), (0, 1)]) zr_197_111 rfl (by decide) (by omega) rfl ?_
                        refine zw_42 zr_197_114 ?_
                        exact zw_less (L := [(2, 69), (0, a0), (0, a1), (0, 0), (0, (i2 + 1)), (9, 0)]) ⟨Or.inr rfl, Or.inr rfl, Or.inr rfl, Or.inr rfl, Or.inr rfl, Or.inl rfl, trivial⟩ (ihlp5_3 (0) ((i2 + 1))  (by omega) (by omega) (by omega) (by omega) (by omega) (by omega) (by omega))
                      · intro h67
                        refine zw_push zr_197_105 ?_
                        refine zw_42 zr_197_106 ?_
                        refine zw_9 (L' := [(2, 69), (0, a0), (0, a1), (0, 1), (0, i2), (0, 1)]) zr_197_110 (Nat.le_of_ble_eq_true rfl) rfl ?_
                        refine zw_15 (c := 1) (L' := [(2, 69), (0, a0), (0, a1), (0, 1), (0, (i2 + 1)), (0, 1)]) zr_197_111 rfl (by decide) (by omega) rfl ?_
                        refine zw_42 zr_197_114 ?_
                        exact zw_less (L := [(2, 69), (0, a0), (0, a1), (0, 1), (0, (i2 + 1)), (9, 0)]) ⟨Or.inr rfl, Or.inr rfl, Or.inr rfl, Or.inr rfl, Or.inr rfl, Or.inl rfl, trivial⟩ (ihlp5_3 (1) ((i2 + 1))  (by omega) (by omega) (by omega) (by omega) (by omega) (by omega) (by omega))
          · intro h68
            refine zw_7 zr_197_36 rfl ?_
            refine zw_4 zr_197_37 rfl ?_
            refine zw_push zr_197_39 ?_
            refine zw_C zr_197_40 (Or.inl rfl) zm_144 rfl rfl ⟨Nat.le_of_ble_eq_true rfl, Nat.le_of_ble_eq_true rfl, Nat.le_of_ble_eq_true rfl, rfl, by decide⟩ (by omega) (P := (fun v m' => zW E (d) 197 43 [(2, 69), (0, a0), (0, a1), (0, i1), (0, i2), (9, 0)] (if v.1 = 9 then [] else v :: []) m' Q)) ?_ (fun _ _ h => h)
            generalize hQ1 : (fun v m' => zW E (d) 197 43 [(2, 69), (0, a0), (0, a1), (0, i1), (0, i2), (9, 0)] (if v.1 = 9 then [] else v :: []) m' Q) = Q1
            show zW E (d - 1) 144 0 [(2, 69), (0, i2), (0, 3)] [] m0 Q1
            refine zw_7 zr_144_0 rfl ?_
            refine zw_46r (s := 70) zr_144_1 rfl rfl rfl rfl ?_
            refine zw_push zr_144_4 ?_
            refine zw_push zr_144_6 ?_
            refine zw_3 zr_144_8 rfl ?_
            refine zw_18 zr_144_9 (by omega) ?_
            refine zw_16 zr_144_10 (by omega) ?_
            refine zw_3 zr_144_11 rfl ?_
            refine zw_16 zr_144_12 (by omega) ?_
            refine zw_48 (c := 70) (len := 826) zr_144_13 rfl rfl (by omega) (by omega) ?_
            intro x69 ex69
            have bx69 := ib_70_m3 hI0 (k := (((90 + (6 * i2)) + 3)).toNat) (by omega)
            rw [← ex69] at bx69
            have qx69 : x69 = F70 (((90 + (6 * i2)) + 3)).toNat := by rw [← hG70]; exact ex69
            refine zw_R zr_144_14 (by decide) zm_144 (v := (0, x69)) rfl ?_
            rw [← hQ1]
            show zW E (d) 197 43 [(2, 69), (0, a0), (0, a1), (0, i1), (0, i2), (9, 0)] [(0, x69)] m0 Q
            refine zw_push zr_197_43 ?_
            refine zw_41_1 zr_197_44 ?_ ?_
            · intro h70
              refine zw_push zr_197_79 ?_
              refine zw_42 zr_197_80 ?_
              refine zw_10 (L' := [(2, 69), (0, a0), (0, a1), (0, i1), (0, i2), (0, 1)]) zr_197_84 (Nat.le_of_ble_eq_true rfl) rfl ?_
              refine zw_3 zr_197_86 rfl ?_
              refine zw_40_4 zr_197_87 ?_ ?_
              · intro h71
                refine zw_push zr_197_105 ?_
                refine zw_42 zr_197_106 ?_
                refine zw_9 (L' := [(2, 69), (0, a0), (0, a1), (0, 1), (0, i2), (0, 1)]) zr_197_110 (Nat.le_of_ble_eq_true rfl) rfl ?_
                refine zw_15 (c := 1) (L' := [(2, 69), (0, a0), (0, a1), (0, 1), (0, (i2 + 1)), (0, 1)]) zr_197_111 rfl (by decide) (by omega) rfl ?_
                refine zw_42 zr_197_114 ?_
                exact zw_less (L := [(2, 69), (0, a0), (0, a1), (0, 1), (0, (i2 + 1)), (9, 0)]) ⟨Or.inr rfl, Or.inr rfl, Or.inr rfl, Or.inr rfl, Or.inr rfl, Or.inl rfl, trivial⟩ (ihlp5_3 (1) ((i2 + 1))  (by omega) (by omega) (by omega) (by omega) (by omega) (by omega) (by omega))
              · intro h72
                refine zw_4 zr_197_90 rfl ?_
                refine zw_40_1 zr_197_92 ?_ ?_
                · intro h73; omega
                · intro h74
                  refine zw_7 zr_197_95 rfl ?_
                  refine zw_4 zr_197_96 rfl ?_
                  refine zw_push zr_197_98 ?_
                  refine zw_C zr_197_99 (Or.inl rfl) zm_144 rfl rfl ⟨Nat.le_of_ble_eq_true rfl, Nat.le_of_ble_eq_true rfl, Nat.le_of_ble_eq_true rfl, rfl, by decide⟩ (by omega) (P := (fun v m' => zW E (d) 197 102 [(2, 69), (0, a0), (0, a1), (0, i1), (0, i2), (0, 1)] (if v.1 = 9 then [] else v :: []) m' Q)) ?_ (fun _ _ h => h)
                  generalize hQ1 : (fun v m' => zW E (d) 197 102 [(2, 69), (0, a0), (0, a1), (0, i1), (0, i2), (0, 1)] (if v.1 = 9 then [] else v :: []) m' Q) = Q1
                  show zW E (d - 1) 144 0 [(2, 69), (0, i2), (0, 4)] [] m0 Q1
                  refine zw_7 zr_144_0 rfl ?_
                  refine zw_46r (s := 70) zr_144_1 rfl rfl rfl rfl ?_
                  refine zw_push zr_144_4 ?_
                  refine zw_push zr_144_6 ?_
                  refine zw_3 zr_144_8 rfl ?_
                  refine zw_18 zr_144_9 (by omega) ?_
                  refine zw_16 zr_144_10 (by omega) ?_
                  refine zw_3 zr_144_11 rfl ?_
                  refine zw_16 zr_144_12 (by omega) ?_
                  refine zw_48 (c := 70) (len := 826) zr_144_13 rfl rfl (by omega) (by omega) ?_
                  intro x75 ex75
                  have bx75 := ib_70_m4 hI0 (k := (((90 + (6 * i2)) + 4)).toNat) (by omega)
                  rw [← ex75] at bx75
                  have qx75 : x75 = F70 (((90 + (6 * i2)) + 4)).toNat := by rw [← hG70]; exact ex75
                  refine zw_R zr_144_14 (by decide) zm_144 (v := (0, x75)) rfl ?_
                  rw [← hQ1]
                  show zW E (d) 197 102 [(2, 69), (0, a0), (0, a1), (0, i1), (0, i2), (0, 1)] [(0, x75)] m0 Q
                  refine zw_40_4 zr_197_102 ?_ ?_
                  · intro h76
                    refine zw_push zr_197_109 ?_
                    refine zw_9 (L' := [(2, 69), (0, a0), (0, a1), (0, 0), (0, i2), (0, 1)]) zr_197_110 (Nat.le_of_ble_eq_true rfl) rfl ?_
                    refine zw_15 (c := 1) (L' := [(2, 69), (0, a0), (0, a1), (0, 0), (0, (i2 + 1)), (0, 1)]) zr_197_111 rfl (by decide) (by omega) rfl ?_
                    refine zw_42 zr_197_114 ?_
                    exact zw_less (L := [(2, 69), (0, a0), (0, a1), (0, 0), (0, (i2 + 1)), (9, 0)]) ⟨Or.inr rfl, Or.inr rfl, Or.inr rfl, Or.inr rfl, Or.inr rfl, Or.inl rfl, trivial⟩ (ihlp5_3 (0) ((i2 + 1))  (by omega) (by omega) (by omega) (by omega) (by omega) (by omega) (by omega))
                  · intro h77
                    refine zw_push zr_197_105 ?_
                    refine zw_42 zr_197_106 ?_
                    refine zw_9 (L' := [(2, 69), (0, a0), (0, a1), (0, 1), (0, i2), (0, 1)]) zr_197_110 (Nat.le_of_ble_eq_true rfl) rfl ?_
                    refine zw_15 (c := 1) (L' := [(2, 69), (0, a0), (0, a1), (0, 1), (0, (i2 + 1)), (0, 1)]) zr_197_111 rfl (by decide) (by omega) rfl ?_
                    refine zw_42 zr_197_114 ?_
                    exact zw_less (L := [(2, 69), (0, a0), (0, a1), (0, 1), (0, (i2 + 1)), (9, 0)]) ⟨Or.inr rfl, Or.inr rfl, Or.inr rfl, Or.inr rfl, Or.inr rfl, Or.inl rfl, trivial⟩ (ihlp5_3 (1) ((i2 + 1))  (by omega) (by omega) (by omega) (by omega) (by omega) (by omega) (by omega))
            · intro h78
              refine zw_7 zr_197_47 rfl ?_
              refine zw_4 zr_197_48 rfl ?_
              refine zw_push zr_197_50 ?_
              refine zw_C zr_197_51 (Or.inl rfl) zm_144 rfl rfl ⟨Nat.le_of_ble_eq_true rfl, Nat.le_of_ble_eq_true rfl, Nat.le_of_ble_eq_true rfl, rfl, by decide⟩ (by omega) (P := (fun v m' => zW E (d) 197 54 [(2, 69), (0, a0), (0, a1), (0, i1), (0, i2), (9, 0)] (if v.1 = 9 then [] else v :: []) m' Q)) ?_ (fun _ _ h => h)
              generalize hQ1 : (fun v m' => zW E (d) 197 54 [(2, 69), (0, a0), (0, a1), (0, i1), (0, i2), (9, 0)] (if v.1 = 9 then [] else v :: []) m' Q) = Q1
              show zW E (d - 1) 144 0 [(2, 69), (0, i2), (0, 1)] [] m0 Q1
              refine zw_7 zr_144_0 rfl ?_
              refine zw_46r (s := 70) zr_144_1 rfl rfl rfl rfl ?_
              refine zw_push zr_144_4 ?_
              refine zw_push zr_144_6 ?_
              refine zw_3 zr_144_8 rfl ?_
              refine zw_18 zr_144_9 (by omega) ?_
              refine zw_16 zr_144_10 (by omega) ?_
              refine zw_3 zr_144_11 rfl ?_
              refine zw_16 zr_144_12 (by omega) ?_
              refine zw_48k (c := 70) (len := 826) zr_144_13 rfl rfl (by omega) (by omega) rfl ex10.symm ?_
              refine zw_R zr_144_14 (by decide) zm_144 (v := (0, x10)) rfl ?_
              rw [← hQ1]
              show zW E (d) 197 54 [(2, 69), (0, a0), (0, a1), (0, i1), (0, i2), (9, 0)] [(0, x10)] m0 Q
              refine zw_3 zr_197_54 rfl ?_
              refine zw_41_4 zr_197_55 ?_ ?_
              · intro h79
                refine zw_push zr_197_83 ?_
                refine zw_10 (L' := [(2, 69), (0, a0), (0, a1), (0, i1), (0, i2), (0, 0)]) zr_197_84 (Nat.le_of_ble_eq_true rfl) rfl ?_
                refine zw_3 zr_197_86 rfl ?_
                refine zw_40_4 zr_197_87 ?_ ?_
                · intro h80
                  refine zw_push zr_197_105 ?_
                  refine zw_42 zr_197_106 ?_
                  refine zw_9 (L' := [(2, 69), (0, a0), (0, a1), (0, 1), (0, i2), (0, 0)]) zr_197_110 (Nat.le_of_ble_eq_true rfl) rfl ?_
                  refine zw_15 (c := 1) (L' := [(2, 69), (0, a0), (0, a1), (0, 1), (0, (i2 + 1)), (0, 0)]) zr_197_111 rfl (by decide) (by omega) rfl ?_
                  refine zw_42 zr_197_114 ?_
                  exact zw_less (L := [(2, 69), (0, a0), (0, a1), (0, 1), (0, (i2 + 1)), (9, 0)]) ⟨Or.inr rfl, Or.inr rfl, Or.inr rfl, Or.inr rfl, Or.inr rfl, Or.inl rfl, trivial⟩ (ihlp5_3 (1) ((i2 + 1))  (by omega) (by omega) (by omega) (by omega) (by omega) (by omega) (by omega))
                · intro h81
                  refine zw_4 zr_197_90 rfl ?_
                  refine zw_40_1 zr_197_92 ?_ ?_
                  · intro h82
                    refine zw_push zr_197_109 ?_
                    refine zw_9 (L' := [(2, 69), (0, a0), (0, a1), (0, 0), (0, i2), (0, 0)]) zr_197_110 (Nat.le_of_ble_eq_true rfl) rfl ?_
                    refine zw_15 (c := 1) (L' := [(2, 69), (0, a0), (0, a1), (0, 0), (0, (i2 + 1)), (0, 0)]) zr_197_111 rfl (by decide) (by omega) rfl ?_
                    refine zw_42 zr_197_114 ?_
                    exact zw_less (L := [(2, 69), (0, a0), (0, a1), (0, 0), (0, (i2 + 1)), (9, 0)]) ⟨Or.inr rfl, Or.inr rfl, Or.inr rfl, Or.inr rfl, Or.inr rfl, Or.inl rfl, trivial⟩ (ihlp5_3 (0) ((i2 + 1))  (by omega) (by omega) (by omega) (by omega) (by omega) (by omega) (by omega))
                  · intro h83; omega
              · intro h84
                refine zw_7 zr_197_58 rfl ?_
                refine zw_4 zr_197_59 rfl ?_
                refine zw_push zr_197_61 ?_
                refine zw_C zr_197_62 (Or.inl rfl) zm_144 rfl rfl ⟨Nat.le_of_ble_eq_true rfl, Nat.le_of_ble_eq_true rfl, Nat.le_of_ble_eq_true rfl, rfl, by decide⟩ (by omega) (P := (fun v m' => zW E (d) 197 65 [(2, 69), (0, a0), (0, a1), (0, i1), (0, i2), (9, 0)] (if v.1 = 9 then [] else v :: []) m' Q)) ?_ (fun _ _ h => h)
                generalize hQ1 : (fun v m' => zW E (d) 197 65 [(2, 69), (0, a0), (0, a1), (0, i1), (0, i2), (9, 0)] (if v.1 = 9 then [] else v :: []) m' Q) = Q1
                show zW E (d - 1) 144 0 [(2, 69), (0, i2), (0, 2)] [] m0 Q1
                refine zw_7 zr_144_0 rfl ?_
                refine zw_46r (s := 70) zr_144_1 rfl rfl rfl rfl ?_
                refine zw_push zr_144_4 ?_
                refine zw_push zr_144_6 ?_
                refine zw_3 zr_144_8 rfl ?_
                refine zw_18 zr_144_9 (by omega) ?_
                refine zw_16 zr_144_10 (by omega) ?_
                refine zw_3 zr_144_11 rfl ?_
                refine zw_16 zr_144_12 (by omega) ?_
                refine zw_48k (c := 70) (len := 826) zr_144_13 rfl rfl (by omega) (by omega) rfl ex40.symm ?_
                refine zw_R zr_144_14 (by decide) zm_144 (v := (0, x40)) rfl ?_
                rw [← hQ1]
                show zW E (d) 197 65 [(2, 69), (0, a0), (0, a1), (0, i1), (0, i2), (9, 0)] [(0, x40)] m0 Q
                refine zw_3 zr_197_65 rfl ?_
                refine zw_41_4 zr_197_66 ?_ ?_
                · intro h85
                  refine zw_push zr_197_83 ?_
                  refine zw_10 (L' := [(2, 69), (0, a0), (0, a1), (0, i1), (0, i2), (0, 0)]) zr_197_84 (Nat.le_of_ble_eq_true rfl) rfl ?_
                  refine zw_3 zr_197_86 rfl ?_
                  refine zw_40_4 zr_197_87 ?_ ?_
                  · intro h86
                    refine zw_push zr_197_105 ?_
                    refine zw_42 zr_197_106 ?_
                    refine zw_9 (L' := [(2, 69), (0, a0), (0, a1), (0, 1), (0, i2), (0, 0)]) zr_197_110 (Nat.le_of_ble_eq_true rfl) rfl ?_
                    refine zw_15 (c := 1) (L' := [(2, 69), (0, a0), (0, a1), (0, 1), (0, (i2 + 1)), (0, 0)]) zr_197_111 rfl (by decide) (by omega) rfl ?_
                    refine zw_42 zr_197_114 ?_
                    exact zw_less (L := [(2, 69), (0, a0), (0, a1), (0, 1), (0, (i2 + 1)), (9, 0)]) ⟨Or.inr rfl, Or.inr rfl, Or.inr rfl, Or.inr rfl, Or.inr rfl, Or.inl rfl, trivial⟩ (ihlp5_3 (1) ((i2 + 1))  (by omega) (by omega) (by omega) (by omega) (by omega) (by omega) (by omega))
                  · intro h87
                    refine zw_4 zr_197_90 rfl ?_
                    refine zw_40_1 zr_197_92 ?_ ?_
                    · intro h88
                      refine zw_push zr_197_109 ?_
                      refine zw_9 (L' := [(2, 69), (0, a0), (0, a1), (0, 0), (0, i2), (0, 0)]) zr_197_110 (Nat.le_of_ble_eq_true rfl) rfl ?_
                      refine zw_15 (c := 1) (L' := [(2, 69), (0, a0), (0, a1), (0, 0), (0, (i2 + 1)), (0, 0)]) zr_197_111 rfl (by decide) (by omega) rfl ?_
                      refine zw_42 zr_197_114 ?_
                      exact zw_less (L := [(2, 69), (0, a0), (0, a1), (0, 0), (0, (i2 + 1)), (9, 0)]) ⟨Or.inr rfl, Or.inr rfl, Or.inr rfl, Or.inr rfl, Or.inr rfl, Or.inl rfl, trivial⟩ (ihlp5_3 (0) ((i2 + 1))  (by omega) (by omega) (by omega) (by omega) (by omega) (by omega) (by omega))
                    · intro h89; omega
                · intro h90
                  refine zw_7 zr_197_69 rfl ?_
                  refine zw_4 zr_197_70 rfl ?_
                  refine zw_push zr_197_72 ?_
                  refine zw_C zr_197_73 (Or.inl rfl) zm_144 rfl rfl ⟨Nat.le_of_ble_eq_true rfl, Nat.le_of_ble_eq_true rfl, Nat.le_of_ble_eq_true rfl, rfl, by decide⟩ (by omega) (P := (fun v m' => zW E (d) 197 76 [(2, 69), (0, a0), (0, a1), (0, i1), (0, i2), (9, 0)] (if v.1 = 9 then [] else v :: []) m' Q)) ?_ (fun _ _ h => h)
                  generalize hQ1 : (fun v m' => zW E (d) 197 76 [(2, 69), (0, a0), (0, a1), (0, i1), (0, i2), (9, 0)] (if v.1 = 9 then [] else v :: []) m' Q) = Q1
                  show zW E (d - 1) 144 0 [(2, 69), (0, i2), (0, 3)] [] m0 Q1
                  refine zw_7 zr_144_0 rfl ?_
                  refine zw_46r (s := 70) zr_144_1 rfl rfl rfl rfl ?_
                  refine zw_push zr_144_4 ?_
                  refine zw_push zr_144_6 ?_
                  refine zw_3 zr_144_8 rfl ?_
                  refine zw_18 zr_144_9 (by omega) ?_
                  refine zw_16 zr_144_10 (by omega) ?_
                  refine zw_3 zr_144_11 rfl ?_
                  refine zw_16 zr_144_12 (by omega) ?_
                  refine zw_48k (c := 70) (len := 826) zr_144_13 rfl rfl (by omega) (by omega) rfl ex69.symm ?_
                  refine zw_R zr_144_14 (by decide) zm_144 (v := (0, x69)) rfl ?_
                  rw [← hQ1]
                  show zW E (d) 197 76 [(2, 69), (0, a0), (0, a1), (0, i1), (0, i2), (9, 0)] [(0, x69)] m0 Q
                  refine zw_40_4 zr_197_76 ?_ ?_
                  · intro h91
                    refine zw_push zr_197_83 ?_
                    refine zw_10 (L' := [(2, 69), (0, a0), (0, a1), (0, i1), (0, i2), (0, 0)]) zr_197_84 (Nat.le_of_ble_eq_true rfl) rfl ?_
                    refine zw_3 zr_197_86 rfl ?_
                    refine zw_40_4 zr_197_87 ?_ ?_
                    · intro h92
                      refine zw_push zr_197_105 ?_
                      refine zw_42 zr_197_106 ?_
                      refine zw_9 (L' := [(2, 69), (0, a0), (0, a1), (0, 1), (0, i2), (0, 0)]) zr_197_110 (Nat.le_of_ble_eq_true rfl) rfl ?_
                      refine zw_15 (c := 1) (L' := [(2, 69), (0, a0), (0, a1), (0, 1), (0, (i2 + 1)), (0, 0)]) zr_197_111 rfl (by decide) (by omega) rfl ?_
                      refine zw_42 zr_197_114 ?_
                      exact zw_less (L := [(2, 69), (0, a0), (0, a1), (0, 1), (0, (i2 + 1)), (9, 0)]) ⟨Or.inr rfl, Or.inr rfl, Or.inr rfl, Or.inr rfl, Or.inr rfl, Or.inl rfl, trivial⟩ (ihlp5_3 (1) ((i2 + 1))  (by omega) (by omega) (by omega) (by omega) (by omega) (by omega) (by omega))
                    · intro h93
                      refine zw_4 zr_197_90 rfl ?_
                      refine zw_40_1 zr_197_92 ?_ ?_
                      · intro h94
                        refine zw_push zr_197_109 ?_
                        refine zw_9 (L' := [(2, 69), (0, a0), (0, a1), (0, 0), (0, i2), (0, 0)]) zr_197_110 (Nat.le_of_ble_eq_true rfl) rfl ?_
                        refine zw_15 (c := 1) (L' := [(2, 69), (0, a0), (0, a1), (0, 0), (0, (i2 + 1)), (0, 0)]) zr_197_111 rfl (by decide) (by omega) rfl ?_
                        refine zw_42 zr_197_114 ?_
                        exact zw_less (L := [(2, 69), (0, a0), (0, a1), (0, 0), (0, (i2 + 1)), (9, 0)]) ⟨Or.inr rfl, Or.inr rfl, Or.inr rfl, Or.inr rfl, Or.inr rfl, Or.inl rfl, trivial⟩ (ihlp5_3 (0) ((i2 + 1))  (by omega) (by omega) (by omega) (by omega) (by omega) (by omega) (by omega))
                      · intro h95; omega
                  · intro h96
                    refine zw_push zr_197_79 ?_
                    refine zw_42 zr_197_80 ?_
                    refine zw_10 (L' := [(2, 69), (0, a0), (0, a1), (0, i1), (0, i2), (0, 1)]) zr_197_84 (Nat.le_of_ble_eq_true rfl) rfl ?_
                    refine zw_3 zr_197_86 rfl ?_
                    refine zw_40_4 zr_197_87 ?_ ?_
                    · intro h97
                      refine zw_push zr_197_105 ?_
                      refine zw_42 zr_197_106 ?_
                      refine zw_9 (L' := [(2, 69), (0, a0), (0, a1), (0, 1), (0, i2), (0, 1)]) zr_197_110 (Nat.le_of_ble_eq_true rfl) rfl ?_
                      refine zw_15 (c := 1) (L' := [(2, 69), (0, a0), (0, a1), (0, 1), (0, (i2 + 1)), (0, 1)]) zr_197_111 rfl (by decide) (by omega) rfl ?_
                      refine zw_42 zr_197_114 ?_
                      exact zw_less (L := [(2, 69), (0, a0), (0, a1), (0, 1), (0, (i2 + 1)), (9, 0)]) ⟨Or.inr rfl, Or.inr rfl, Or.inr rfl, Or.inr rfl, Or.inr rfl, Or.inl rfl, trivial⟩ (ihlp5_3 (1) ((i2 + 1))  (by omega) (by omega) (by omega) (by omega) (by omega) (by omega) (by omega))
                    · intro h98
                      refine zw_4 zr_197_90 rfl ?_
                      refine zw_40_1 zr_197_92 ?_ ?_
                      · intro h99; omega
                      · intro h100
                        refine zw_7 zr_197_95 rfl ?_
                        refine zw_4 zr_197_96 rfl ?_
                        refine zw_push zr_197_98 ?_
                        refine zw_C zr_197_99 (Or.inl rfl) zm_144 rfl rfl ⟨Nat.le_of_ble_eq_true rfl, Nat.le_of_ble_eq_true rfl, Nat.le_of_ble_eq_true rfl, rfl, by decide⟩ (by omega) (P := (fun v m' => zW E (d) 197 102 [(2, 69), (0, a0), (0, a1), (0, i1), (0, i2), (0, 1)] (if v.1 = 9 then [] else v :: []) m' Q)) ?_ (fun _ _ h => h)
                        generalize hQ1 : (fun v m' => zW E (d) 197 102 [(2, 69), (0, a0), (0, a1), (0, i1), (0, i2), (0, 1)] (if v.1 = 9 then [] else v :: []) m' Q) = Q1
                        show zW E (d - 1) 144 0 [(2, 69), (0, i2), (0, 4)] [] m0 Q1
                        refine zw_7 zr_144_0 rfl ?_
                        refine zw_46r (s := 70) zr_144_1 rfl rfl rfl rfl ?_
                        refine zw_push zr_144_4 ?_
                        refine zw_push zr_144_6 ?_
                        refine zw_3 zr_144_8 rfl ?_
                        refine zw_18 zr_144_9 (by omega) ?_
                        refine zw_16 zr_144_10 (by omega) ?_
                        refine zw_3 zr_144_11 rfl ?_
                        refine zw_16 zr_144_12 (by omega) ?_
                        refine zw_48 (c := 70) (len := 826) zr_144_13 rfl rfl (by omega) (by omega) ?_
                        intro x101 ex101
                        have bx101 := ib_70_m4 hI0 (k := (((90 + (6 * i2)) + 4)).toNat) (by omega)
                        rw [← ex101] at bx101
                        have qx101 : x101 = F70 (((90 + (6 * i2)) + 4)).toNat := by rw [← hG70]; exact ex101
                        refine zw_R zr_144_14 (by decide) zm_144 (v := (0, x101)) rfl ?_
                        rw [← hQ1]
                        show zW E (d) 197 102 [(2, 69), (0, a0), (0, a1), (0, i1), (0, i2), (0, 1)] [(0, x101)] m0 Q
                        refine zw_40_4 zr_197_102 ?_ ?_
                        · intro h102
                          refine zw_push zr_197_109 ?_
                          refine zw_9 (L' := [(2, 69), (0, a0), (0, a1), (0, 0), (0, i2), (0, 1)]) zr_197_110 (Nat.le_of_ble_eq_true rfl) rfl ?_
                          refine zw_15 (c := 1) (L' := [(2, 69), (0, a0), (0, a1), (0, 0), (0, (i2 + 1)), (0, 1)]) zr_197_111 rfl (by decide) (by omega) rfl ?_
                          refine zw_42 zr_197_114 ?_
                          exact zw_less (L := [(2, 69), (0, a0), (0, a1), (0, 0), (0, (i2 + 1)), (9, 0)]) ⟨Or.inr rfl, Or.inr rfl, Or.inr rfl, Or.inr rfl, Or.inr rfl, Or.inl rfl, trivial⟩ (ihlp5_3 (0) ((i2 + 1))  (by omega) (by omega) (by omega) (by omega) (by omega) (by omega) (by omega))
                        · intro h103
                          refine zw_push zr_197_105 ?_
                          refine zw_42 zr_197_106 ?_
                          refine zw_9 (L' := [(2, 69), (0, a0), (0, a1), (0, 1), (0, i2), (0, 1)]) zr_197_110 (Nat.le_of_ble_eq_true rfl) rfl ?_
                          refine zw_15 (c := 1) (L' := [(2, 69), (0, a0), (0, a1), (0, 1), (0, (i2 + 1)), (0, 1)]) zr_197_111 rfl (by decide) (by omega) rfl ?_
                          refine zw_42 zr_197_114 ?_
                          exact zw_less (L := [(2, 69), (0, a0), (0, a1), (0, 1), (0, (i2 + 1)), (9, 0)]) ⟨Or.inr rfl, Or.inr rfl, Or.inr rfl, Or.inr rfl, Or.inr rfl, Or.inl rfl, trivial⟩ (ihlp5_3 (1) ((i2 + 1))  (by omega) (by omega) (by omega) (by omega) (by omega) (by omega) (by omega))
  exact lp5_3 _ (0) (0)  (by omega) (by omega) (by omega) (by omega) (by simp only [hbv, Int.toNat_zero]) (by have := ib_70_meetings hI0 (k := 823) rfl; omega) (Nat.lt_succ_self _)
