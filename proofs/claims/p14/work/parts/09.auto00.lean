abbrev W_99 : List (Nat × Nat) := [(1, 0), (2, 1000)]
set_option maxHeartbeats 8000000 in
theorem th_99 {E : zE} {d : Nat} {m0 : zM} {a0 : Int} {g0 : Int} {F2 : Nat → Int} (hd : 1 ≤ d) (hI0 : zInv m0) (hg0 : m0 1 0 = g0) (hG2 : m0 2 = F2) (ha0 : (-2147483648) ≤ a0 ∧ a0 ≤ 2147483647) : zC E d 99 [(2, 0), (0, a0)] m0 (fun v m' => ∃ r : Int, v = (0, r) ∧ (-4) ≤ r ∧ r ≤ 9 ∧ zInv m' ∧ zFr W_99 m0 m' ∧ ((r = -2 ∧ (a0 < -60 ∨ 99 < a0)) ∨ (-60 ≤ a0 ∧ a0 ≤ 99 ∧ ((g0 = 10 ∧ r = -4) ∨ (0 ≤ g0 ∧ g0 < 10 ∧ r = g0)))) ∧ ((0 ≤ r ∧ m' 1 0 = g0 + 1) ∨ (r < 0 ∧ m' 1 0 = g0)) ∧ (m' 2 = if 0 ≤ r then zPt F2 g0.toNat a0 else F2)) := by
  have hF0 : zFr W_99 m0 m0 := zFr.rfl
  have bg0 := ib_1_0 hI0
  rw [hg0] at bg0
  generalize hQ : (fun (v : zV) (m' : zM) => ∃ r : Int, v = (0, r) ∧ (-4) ≤ r ∧ r ≤ 9 ∧ zInv m' ∧ zFr W_99 m0 m' ∧ ((r = -2 ∧ (a0 < -60 ∨ 99 < a0)) ∨ (-60 ≤ a0 ∧ a0 ≤ 99 ∧ ((g0 = 10 ∧ r = -4) ∨ (0 ≤ g0 ∧ g0 < 10 ∧ r = g0)))) ∧ ((0 ≤ r ∧ m' 1 0 = g0 + 1) ∨ (r < 0 ∧ m' 1 0 = g0)) ∧ (m' 2 = if 0 ≤ r then zPt F2 g0.toNat a0 else F2)) = Q
  show zW E d 99 0 [(2, 0), (0, a0)] [] m0 Q
  refine zw_3 zr_99_0 rfl ?_
  refine zw_push zr_99_1 ?_
  refine zw_41_0 zr_99_3 ?_ ?_
  · intro h1
    refine zw_push zr_99_12 ?_
    refine zw_R zr_99_14 (by decide) zm_99 (v := (0, (-2))) rfl ?_
    rw [← hQ]; exact ⟨_, rfl, by omega, by omega, hI0, hF0, by omega, by omega, by rw [hG2]; first | exact (if_neg (by omega)).symm | exact (if_pos (by omega)).symm⟩
  · intro h5
    refine zw_3 zr_99_6 rfl ?_
    refine zw_push zr_99_7 ?_
    refine zw_41_0 zr_99_9 ?_ ?_
    · intro h6
      refine zw_7 zr_99_15 rfl ?_
      refine zw_46r (s := 1) zr_99_16 rfl rfl rfl rfl ?_
      refine zw_46i zr_99_19 hg0 rfl rfl rfl ?_
      refine zw_push zr_99_22 ?_
      refine zw_41_0 zr_99_24 ?_ ?_
      · intro h7
        refine zw_7 zr_99_30 rfl ?_
        refine zw_46r (s := 1) zr_99_31 rfl rfl rfl rfl ?_
        refine zw_46r (s := 2) zr_99_34 rfl rfl rfl rfl ?_
        refine zw_7 zr_99_37 rfl ?_
        refine zw_46r (s := 1) zr_99_38 rfl rfl rfl rfl ?_
        refine zw_46i zr_99_41 hg0 rfl rfl rfl ?_
        refine zw_3 zr_99_44 rfl ?_
        refine zw_49 (c := 2) (len := 10) zr_99_45 rfl rfl (by omega) (by omega) ?_
        intro m8 em8
        have hIm8 : zInv m8 := by rw [em8]; exact iu_2 hI0 (by omega)
        have hFm8 : zFr W_99 m0 m8 := by rw [em8]; exact hF0.any rfl
        have km8_1_0 : m8 1 0 = g0 := by rw [em8, zUp_ne (by omega)]; exact hg0
        have fm8_2 : m8 2 = zPt F2 ((g0).toNat) a0 := by rw [em8]; exact (zUp_ff (m := m0)).trans (congrArg (fun q => zPt q ((g0).toNat) a0) hG2)
        clear em8
        refine zw_7 zr_99_46 rfl ?_
        refine zw_46r (s := 1) zr_99_47 rfl rfl rfl rfl ?_
        refine zw_43 zr_99_50 rfl ?_
        refine zw_46i zr_99_51 km8_1_0 rfl rfl rfl ?_
        refine zw_44 zr_99_54 ⟨rfl, rfl⟩ ?_
        refine zw_push zr_99_55 ?_
        refine zw_16 zr_99_56 (by omega) ?_
        refine zw_47 (c := 1) zr_99_57 rfl ⟨rfl, by decide, rfl⟩ ?_
        intro m9 em9
        have hIm9 : zInv m9 := by rw [em9]; exact hIm8.bd (r := 1) (k := 0) (lo := 0) (hi := 10) rfl (by omega) (by decide) (by decide) (by decide)
        have hFm9 : zFr W_99 m0 m9 := by rw [em9]; exact hFm8.up rfl
        have km9_1_0 : m9 1 0 = (g0 + 1) := by rw [em9]; exact zUp_eq _ _ _ _
        have fm9_2 : m9 2 = zPt F2 ((g0).toNat) a0 := by rw [em9, zUp_fn (by decide)]; exact fm8_2
        clear em9
        refine zw_R zr_99_60 (by decide) zm_99 (v := (0, g0)) rfl ?_
        rw [← hQ]; exact ⟨_, rfl, by omega, by omega, hIm9, hFm9, by omega, by omega, by rw [fm9_2]; first | exact (if_neg (by omega)).symm | exact (if_pos (by omega)).symm⟩
      · intro h13
        refine zw_push zr_99_27 ?_
        refine zw_R zr_99_29 (by decide) zm_99 (v := (0, (-4))) rfl ?_
        rw [← hQ]; exact ⟨_, rfl, by omega, by omega, hI0, hF0, by omega, by omega, by rw [hG2]; first | exact (if_neg (by omega)).symm | exact (if_pos (by omega)).symm⟩
    · intro h17
      refine zw_push zr_99_12 ?_
      refine zw_R zr_99_14 (by decide) zm_99 (v := (0, (-2))) rfl ?_
      rw [← hQ]; exact ⟨_, rfl, by omega, by omega, hI0, hF0, by omega, by omega, by rw [hG2]; first | exact (if_neg (by omega)).symm | exact (if_pos (by omega)).symm⟩

abbrev W_145 : List (Nat × Nat) := [(70, 1000)]
set_option maxHeartbeats 8000000 in
theorem th_145 {E : zE} {d : Nat} {m0 : zM} {a0 : Int} {g0 : Int} {F70 : Nat → Int} (hd : 2 ≤ d) (hI0 : zInv m0) (hg0 : m0 70 822 = g0) (hG70 : m0 70 = F70) (ha0 : (-2147483648) ≤ a0 ∧ a0 ≤ 2147483647) : zC E d 145 [(2, 69), (0, a0)] m0 (fun v m' => ∃ r : Int, v = (0, r) ∧ (-4) ≤ r ∧ r ≤ 9 ∧ zInv m' ∧ zFr W_145 m0 m' ∧ ((r = -2 ∧ (a0 < -60 ∨ 99 < a0)) ∨ (-60 ≤ a0 ∧ a0 ≤ 99 ∧ ((g0 = 10 ∧ r = -4) ∨ (0 ≤ g0 ∧ g0 < 10 ∧ r = g0)))) ∧ (m' 70 = if 0 ≤ r then zPt (zPt F70 (0 + g0).toNat a0) 822 (g0 + 1) else F70)) := by
  have hF0 : zFr W_145 m0 m0 := zFr.rfl
  have bg0 : 0 ≤ m0 70 822 ∧ m0 70 822 ≤ 10 := ib_70_players hI0 (by omega)
  rw [hg0] at bg0
  generalize hQ : (fun (v : zV) (m' : zM) => ∃ r : Int, v = (0, r) ∧ (-4) ≤ r ∧ r ≤ 9 ∧ zInv m' ∧ zFr W_145 m0 m' ∧ ((r = -2 ∧ (a0 < -60 ∨ 99 < a0)) ∨ (-60 ≤ a0 ∧ a0 ≤ 99 ∧ ((g0 = 10 ∧ r = -4) ∨ (0 ≤ g0 ∧ g0 < 10 ∧ r = g0)))) ∧ (m' 70 = if 0 ≤ r then zPt (zPt F70 (0 + g0).toNat a0) 822 (g0 + 1) else F70)) = Q
  show zW E d 145 0 [(2, 69), (0, a0)] [] m0 Q
  refine zw_3 zr_145_0 rfl ?_
  refine zw_36 zr_145_1 ?_
  refine zw_push zr_145_2 ?_
  refine zw_push zr_145_5 ?_
  refine zw_C zr_145_8 (Or.inr rfl) zm_140 rfl rfl ⟨Nat.le_of_ble_eq_true rfl, Nat.le_of_ble_eq_true rfl, Nat.le_of_ble_eq_true rfl, rfl, by decide⟩ (by omega) (P := (fun v m' => zW E (d) 145 11 [(2, 69), (0, a0)] (if v.1 = 9 then [] else v :: []) m' Q)) ?_ (fun _ _ h => h)
  generalize hQ1 : (fun v m' => zW E (d) 145 11 [(2, 69), (0, a0)] (if v.1 = 9 then [] else v :: []) m' Q) = Q1
  show zW E (d - 1) 140 0 [(1, a0), (9, 0), (1, (-60)), (9, 0), (1, 99), (9, 0)] [] m0 Q1
  refine zw_5 zr_140_0 rfl ?_
  refine zw_5 zr_140_1 rfl ?_
  refine zw_39_0 zr_140_2 zr_140_3 ?_ ?_
  · intro h1
    refine zw_push zr_140_17 ?_
    refine zw_R zr_140_18 (by decide) zm_140 (v := (0, 0)) (zRetB (by omega)) ?_
    rw [← hQ1]
    show zW E (d) 145 11 [(2, 69), (0, a0)] [(0, 0)] m0 Q
    refine zw_40_4 zr_145_11 ?_ ?_
    · intro h2; omega
    · intro h3
      refine zw_push zr_145_14 ?_
      refine zw_R zr_145_16 (by decide) zm_145 (v := (0, (-2))) rfl ?_
      rw [← hQ]; exact ⟨_, rfl, by omega, by omega, hI0, hF0, by omega, by rw [hG70]; first | exact (if_neg (by omega)).symm | exact (if_pos (by omega)).symm⟩
  · intro h6
    refine zw_5 zr_140_6 rfl ?_
    refine zw_6 zr_140_7 rfl ?_
    refine zw_39_2 zr_140_9 zr_140_10 ?_ ?_
    · intro h7
      refine zw_push zr_140_17 ?_
      refine zw_R zr_140_18 (by decide) zm_140 (v := (0, 0)) (zRetB (by omega)) ?_
      rw [← hQ1]
      show zW E (d) 145 11 [(2, 69), (0, a0)] [(0, 0)] m0 Q
      refine zw_40_4 zr_145_11 ?_ ?_
      · intro h8; omega
      · intro h9
        refine zw_push zr_145_14 ?_
        refine zw_R zr_145_16 (by decide) zm_145 (v := (0, (-2))) rfl ?_
        rw [← hQ]; exact ⟨_, rfl, by omega, by omega, hI0, hF0, by omega, by rw [hG70]; first | exact (if_neg (by omega)).symm | exact (if_pos (by omega)).symm⟩
    · intro h12
      refine zw_push zr_140_13 ?_
      refine zw_42 zr_140_14 ?_
      refine zw_R zr_140_18 (by decide) zm_140 (v := (0, 1)) (zRetB (by omega)) ?_
      rw [← hQ1]
      show zW E (d) 145 11 [(2, 69), (0, a0)] [(0, 1)] m0 Q
      refine zw_40_4 zr_145_11 ?_ ?_
      · intro h13
        refine zw_7 zr_145_17 rfl ?_
        refine zw_C zr_145_18 (Or.inl rfl) zm_141 rfl rfl ⟨Nat.le_of_ble_eq_true rfl, Nat.le_of_ble_eq_true rfl, Nat.le_of_ble_eq_true rfl, rfl, by decide⟩ (by omega) (P := (fun v m' => zW E (d) 145 21 [(2, 69), (0, a0)] (if v.1 = 9 then [] else v :: []) m' Q)) ?_ (fun _ _ h => h)
        generalize hQ1 : (fun v m' => zW E (d) 145 21 [(2, 69), (0, a0)] (if v.1 = 9 then [] else v :: []) m' Q) = Q1
        show zW E (d - 1) 141 0 [(2, 69)] [] m0 Q1
        refine zw_7 zr_141_0 rfl ?_
        refine zw_46r (s := 70) zr_141_1 rfl rfl rfl rfl ?_
        refine zw_push zr_141_4 ?_
        refine zw_48k (c := 70) (len := 826) zr_141_7 rfl rfl (by omega) (by omega) (show (822 : Int).toNat = 822 by omega) hg0 ?_
        refine zw_R zr_141_8 (by decide) zm_141 (v := (0, g0)) rfl ?_
        rw [← hQ1]
        show zW E (d) 145 21 [(2, 69), (0, a0)] [(0, g0)] m0 Q
        refine zw_push zr_145_21 ?_
        refine zw_41_4 zr_145_23 ?_ ?_
        · intro h14
          refine zw_7 zr_145_29 rfl ?_
          refine zw_46r (s := 70) zr_145_30 rfl rfl rfl rfl ?_
          refine zw_push zr_145_33 ?_
          refine zw_7 zr_145_34 rfl ?_
          refine zw_C zr_145_35 (Or.inl rfl) zm_141 rfl rfl ⟨Nat.le_of_ble_eq_true rfl, Nat.le_of_ble_eq_true rfl, Nat.le_of_ble_eq_true rfl, rfl, by decide⟩ (by omega) (P := (fun v m' => zW E (d) 145 38 [(2, 69), (0, a0)] (if v.1 = 9 then [(0, 0), (2, 70)] else v :: [(0, 0), (2, 70)]) m' Q)) ?_ (fun _ _ h => h)
          generalize hQ1 : (fun v m' => zW E (d) 145 38 [(2, 69), (0, a0)] (if v.1 = 9 then [(0, 0), (2, 70)] else v :: [(0, 0), (2, 70)]) m' Q) = Q1
          show zW E (d - 1) 141 0 [(2, 69)] [] m0 Q1
          refine zw_7 zr_141_0 rfl ?_
          refine zw_46r (s := 70) zr_141_1 rfl rfl rfl rfl ?_
          refine zw_push zr_141_4 ?_
          refine zw_48k (c := 70) (len := 826) zr_141_7 rfl rfl (by omega) (by omega) (show (822 : Int).toNat = 822 by omega) hg0 ?_
          refine zw_R zr_141_8 (by decide) zm_141 (v := (0, g0)) rfl ?_
          rw [← hQ1]
          show zW E (d) 145 38 [(2, 69), (0, a0)] [(0, g0), (0, 0), (2, 70)] m0 Q
          refine zw_16 zr_145_38 (by omega) ?_
          refine zw_3 zr_145_39 rfl ?_
          refine zw_49 (c := 70) (len := 826) zr_145_40 rfl rfl (by omega) (by omega) ?_
          intro m15 em15
          have hIm15 : zInv m15 := by rw [em15]; exact iu_70_born hI0 (by omega) (by omega)
          have hFm15 : zFr W_145 m0 m15 := by rw [em15]; exact hF0.any rfl
          have km15_70_822 : m15 70 822 = g0 := by rw [em15, zUp_ne (by omega)]; exact hg0
          have fm15_70 : m15 70 = zPt F70 (((0 + g0)).toNat) a0 := by rw [em15]; exact (zUp_ff (m := m0)).trans (congrArg (fun q => zPt q (((0 + g0)).toNat) a0) hG70)
          clear em15
          refine zw_7 zr_145_41 rfl ?_
          refine zw_46r (s := 70) zr_145_42 rfl rfl rfl rfl ?_
          refine zw_push zr_145_45 ?_
          refine zw_45 zr_145_48 ⟨rfl, rfl⟩ ?_
          refine zw_48k (c := 70) (len := 826) zr_145_49 rfl rfl (by omega) (by omega) (show (822 : Int).toNat = 822 by omega) km15_70_822 ?_
          refine zw_push zr_145_50 ?_
          refine zw_16 zr_145_51 (by omega) ?_
          refine zw_49 (c := 70) (len := 826) zr_145_52 rfl rfl (by omega) (by omega) ?_
          intro m16 em16
          have hIm16 : zInv m16 := by rw [em16]; exact iu_70_players hIm15 (by omega) (by omega)
          have hFm16 : zFr W_145 m0 m16 := by rw [em16]; exact hFm15.any rfl
          have km16_70_822 : m16 70 822 = (g0 + 1) := by rw [em16, show (822 : Int).toNat = 822 by omega]; exact zUp_eq _ _ _ _
          have fm16_70 : m16 70 = zPt (zPt F70 (((0 + g0)).toNat) a0) 822 ((g0 + 1)) := by rw [em16]; exact (zUp_ff (m := m15)).trans (congrArg (fun q => zPt q 822 ((g0 + 1))) fm15_70)
          clear em16
          refine zw_7 zr_145_53 rfl ?_
          refine zw_C zr_145_54 (Or.inl rfl) zm_141 rfl rfl ⟨Nat.le_of_ble_eq_true rfl, Nat.le_of_ble_eq_true rfl, Nat.le_of_ble_eq_true rfl, rfl, by decide⟩ (by omega) (P := (fun v m' => zW E (d) 145 57 [(2, 69), (0, a0)] (if v.1 = 9 then [] else v :: []) m' Q)) ?_ (fun _ _ h => h)
          generalize hQ1 : (fun v m' => zW E (d) 145 57 [(2, 69), (0, a0)] (if v.1 = 9 then [] else v :: []) m' Q) = Q1
          show zW E (d - 1) 141 0 [(2, 69)] [] m16 Q1
          refine zw_7 zr_141_0 rfl ?_
          refine zw_46r (s := 70) zr_141_1 rfl rfl rfl rfl ?_
          refine zw_push zr_141_4 ?_
          refine zw_48k (c := 70) (len := 826) zr_141_7 rfl rfl (by omega) (by omega) (show (822 : Int).toNat = 822 by omega) km16_70_822 ?_
          refine zw_R zr_141_8 (by decide) zm_141 (v := (0, (g0 + 1))) rfl ?_
          rw [← hQ1]
          show zW E (d) 145 57 [(2, 69), (0, a0)] [(0, (g0 + 1))] m16 Q
          refine zw_push zr_145_57 ?_
          refine zw_17 zr_145_58 (by omega) ?_
          refine zw_R zr_145_59 (by decide) zm_145 (v := (0, ((g0 + 1) - 1))) rfl ?_
          rw [← hQ]; exact ⟨_, rfl, by omega, by omega, hIm16, hFm16, by omega, by rw [fm16_70]; first | exact (if_neg (by omega)).symm | exact (if_pos (by omega)).symm⟩
        · intro h19
          refine zw_push zr_145_26 ?_
          refine zw_R zr_145_28 (by decide) zm_145 (v := (0, (-4))) rfl ?_
          rw [← hQ]; exact ⟨_, rfl, by omega, by omega, hI0, hF0, by omega, by rw [hG70]; first | exact (if_neg (by omega)).symm | exact (if_pos (by omega)).symm⟩
      · intro h22; omega

abbrev W_102 : List (Nat × Nat) := [(1, 1), (1, 2), (5, 1000), (6, 1000), (7, 1000), (8, 1000)]
set_option maxHeartbeats 8000000 in
theorem th_102 {E : zE} {d : Nat} {m0 : zM} {a0 : Int} {a1 : Int} {a2 : Int} {a3 : Int} {a4 : Int} {g0 : Int} {g1 : Int} {g2 : Int} {F5 : Nat → Int} {F6 : Nat → Int} {F7 : Nat → Int} {F8 : Nat → Int} (hd : 3 ≤ d) (hI0 : zInv m0) (hg0 : m0 1 0 = g0) (hg1 : m0 1 1 = g1) (hg2 : m0 1 2 = g2) (hG5 : m0 5 = F5) (hG6 : m0 6 = F6) (hG7 : m0 7 = F7) (hG8 : m0 8 = F8) (ha0 : (-2147483648) ≤ a0 ∧ a0 ≤ 2147483647) (ha1 : (-2147483648) ≤ a1 ∧ a1 ≤ 2147483647) (ha2 : (-2147483648) ≤ a2 ∧ a2 ≤ 2147483647) (ha3 : (-2147483648) ≤ a3 ∧ a3 ≤ 2147483647) (ha4 : 0 ≤ a4 ∧ a4 ≤ 1) : zC E d 102 [(2, 0), (0, a0), (0, a1), (0, a2), (0, a3), (0, a4)] m0 (fun v m' => ∃ r : Int, v = (0, r) ∧ (-4) ≤ r ∧ r ≤ 59 ∧ zInv m' ∧ zFr W_102 m0 m' ∧ ((r = -2 ∧ (a0 < 0 ∨ 99 < a0 ∨ a1 < 0 ∨ g0 ≤ a1 ∨ a2 < 0 ∨ g0 ≤ a2 ∨ a1 = a2 ∨ a3 < 0 ∨ 2 < a3 ∨ a0 < zly F5 g1)) ∨ ((0 ≤ a0 ∧ a0 ≤ 99 ∧ 0 ≤ a1 ∧ a1 < g0 ∧ 0 ≤ a2 ∧ a2 < g0 ∧ a1 ≠ a2 ∧ 0 ≤ a3 ∧ a3 ≤ 2 ∧ zly F5 g1 ≤ a0) ∧ ((r = -4 ∧ g1 = 60) ∨ (0 ≤ g1 ∧ g1 < 60 ∧ r = g1)))) ∧ ((0 ≤ r ∧ m' 1 1 = g1 + 1) ∨ (r < 0 ∧ m' 1 1 = g1)) ∧ (m' 5 = if 0 ≤ r then zPt F5 g1.toNat a0 else F5) ∧ (m' 6 = if 0 ≤ r then zPt F6 g1.toNat a1 else F6) ∧ (m' 7 = if 0 ≤ r then zPt F7 g1.toNat a2 else F7) ∧ (m' 8 = if 0 ≤ r then zPt F8 g1.toNat a3 else F8) ∧ (0 ≤ a4 ∧ a4 ≤ 1) ∧ ((0 ≤ r ∧ a4 = 1 ∧ m' 1 2 = zso g2 g1.toNat) ∨ ((r < 0 ∨ a4 = 0) ∧ m' 1 2 = g2))) := by
  have hF0 : zFr W_102 m0 m0 := zFr.rfl
  have bg0 := ib_1_0 hI0
  rw [hg0] at bg0
  have bg1 := ib_1_1 hI0
  rw [hg1] at bg1
  have bg2 := ib_1_2 hI0
  rw [hg2] at bg2
  generalize hQ : (fun (v : zV) (m' : zM) => ∃ r : Int, v = (0, r) ∧ (-4) ≤ r ∧ r ≤ 59 ∧ zInv m' ∧ zFr W_102 m0 m' ∧ ((r = -2 ∧ (a0 < 0 ∨ 99 < a0 ∨ a1 < 0 ∨ g0 ≤ a1 ∨ a2 < 0 ∨ g0 ≤ a2 ∨ a1 = a2 ∨ a3 < 0 ∨ 2 < a3 ∨ a0 < zly F5 g1)) ∨ ((0 ≤ a0 ∧ a0 ≤ 99 ∧ 0 ≤ a1 ∧ a1 < g0 ∧ 0 ≤ a2 ∧ a2 < g0 ∧ a1 ≠ a2 ∧ 0 ≤ a3 ∧ a3 ≤ 2 ∧ zly F5 g1 ≤ a0) ∧ ((r = -4 ∧ g1 = 60) ∨ (0 ≤ g1 ∧ g1 < 60 ∧ r = g1)))) ∧ ((0 ≤ r ∧ m' 1 1 = g1 + 1) ∨ (r < 0 ∧ m' 1 1 = g1)) ∧ (m' 5 = if 0 ≤ r then zPt F5 g1.toNat a0 else F5) ∧ (m' 6 = if 0 ≤ r then zPt F6 g1.toNat a1 else F6) ∧ (m' 7 = if 0 ≤ r then zPt F7 g1.toNat a2 else F7) ∧ (m' 8 = if 0 ≤ r then zPt F8 g1.toNat a3 else F8) ∧ (0 ≤ a4 ∧ a4 ≤ 1) ∧ ((0 ≤ r ∧ a4 = 1 ∧ m' 1 2 = zso g2 g1.toNat) ∨ ((r < 0 ∨ a4 = 0) ∧ m' 1 2 = g2))) = Q
  show zW E d 102 0 [(2, 0), (0, a0), (0, a1), (0, a2), (0, a3), (0, a4)] [] m0 Q
  have z1 := zly_c F5 g1
  refine zw_3 zr_102_0 rfl ?_
  refine zw_C zr_102_1 (Or.inr rfl) zm_101 rfl rfl ⟨Nat.le_of_ble_eq_true rfl, Nat.le_of_ble_eq_true rfl, Nat.le_of_ble_eq_true rfl, rfl, by decide⟩ (by omega) (P := (fun v m' => zW E (d) 102 4 [(2, 0), (0, a0), (0, a1), (0, a2), (0, a3), (0, a4)] (if v.1 = 9 then [] else v :: []) m' Q)) ?_ (fun _ _ h => h)
  generalize hQ1 : (fun v m' => zW E (d) 102 4 [(2, 0), (0, a0), (0, a1), (0, a2), (0, a3), (0, a4)] (if v.1 = 9 then [] else v :: []) m' Q) = Q1
  show zW E (d - 1) 101 0 [(0, a0)] [] m0 Q1
  refine zw_3 zr_101_0 rfl ?_
  refine zw_push zr_101_1 ?_
  refine zw_push zr_101_2 ?_
  refine zw_C zr_101_4 (Or.inr rfl) zm_100 rfl rfl ⟨Nat.le_of_ble_eq_true rfl, Nat.le_of_ble_eq_true rfl, Nat.le_of_ble_eq_true rfl, rfl, by decide⟩ (by omega) (P := (fun v m' => zW E (d - 1) 101 7 [(0, a0)] (if v.1 = 9 then [] else v :: []) m' Q1)) ?_ (fun _ _ h => h)
  generalize hQ2 : (fun v m' => zW E (d - 1) 101 7 [(0, a0)] (if v.1 = 9 then [] else v :: []) m' Q1) = Q2
  show zW E (d - 1 - 1) 100 0 [(0, a0), (0, 0), (0, 99)] [] m0 Q2
  refine zw_3 zr_100_0 rfl ?_
  refine zw_3 zr_100_1 rfl ?_
  refine zw_41_0 zr_100_2 ?_ ?_
  · intro h2
    refine zw_push zr_100_14 ?_
    refine zw_R zr_100_15 (by decide) zm_100 (v := (0, 0)) (zRetB (by omega)) ?_
    rw [← hQ2]
    show zW E (d - 1) 101 7 [(0, a0)] [(0, 0)] m0 Q1
    refine zw_R zr_101_7 (by decide) zm_101 (v := (0, 0)) (zRetB (by omega)) ?_
    rw [← hQ1]
    show zW E (d) 102 4 [(2, 0), (0, a0), (0, a1), (0, a2), (0, a3), (0, a4)] [(0, 0)] m0 Q
    refine zw_40_1 zr_102_4 ?_ ?_
    · intro h3
      refine zw_push zr_102_40 ?_
      refine zw_R zr_102_42 (by decide) zm_102 (v := (0, (-2))) rfl ?_
      rw [← hQ]; exact ⟨_, rfl, by omega, by omega, hI0, hF0, by omega, by omega, by rw [hG5]; first | exact (if_neg (by omega)).symm | exact (if_pos (by omega)).symm, by rw [hG6]; first | exact (if_neg (by omega)).symm | exact (if_pos (by omega)).symm, by rw [hG7]; first | exact (if_neg (by omega)).symm | exact (if_pos (by omega)).symm, by rw [hG8]; first | exact (if_neg (by omega)).symm | exact (if_pos (by omega)).symm, by omega, by omega⟩
    · intro h12; omega
  · intro h13
    refine zw_3 zr_100_5 rfl ?_
    refine zw_3 zr_100_6 rfl ?_
    refine zw_41_2 zr_100_7 ?_ ?_
    · intro h14
      refine zw_push zr_100_14 ?_
      refine zw_R zr_100_15 (by decide) zm_100 (v := (0, 0)) (zRetB (by omega)) ?_
      rw [← hQ2]
      show zW E (d - 1) 101 7 [(0, a0)] [(0, 0)] m0 Q1
      refine zw_R zr_101_7 (by decide) zm_101 (v := (0, 0)) (zRetB (by omega)) ?_
      rw [← hQ1]
      show zW E (d) 102 4 [(2, 0), (0, a0), (0, a1), (0, a2), (0, a3), (0, a4)] [(0, 0)] m0 Q
      refine zw_40_1 zr_102_4 ?_ ?_
      · intro h15
        refine zw_push zr_102_40 ?_
        refine zw_R zr_102_42 (by decide) zm_102 (v := (0, (-2))) rfl ?_
        rw [← hQ]; exact ⟨_, rfl, by omega, by omega, hI0, hF0, by omega, by omega, by rw [hG5]; first | exact (if_neg (by omega)).symm | exact (if_pos (by omega)).symm, by rw [hG6]; first | exact (if_neg (by omega)).symm | exact (if_pos (by omega)).symm, by rw [hG7]; first | exact (if_neg (by omega)).symm | exact (if_pos (by omega)).symm, by rw [hG8]; first | exact (if_neg (by omega)).symm | exact (if_pos (by omega)).symm, by omega, by omega⟩
      · intro h24; omega
    · intro h25
      refine zw_push zr_100_10 ?_
      refine zw_42 zr_100_11 ?_
      refine zw_R zr_100_15 (by decide) zm_100 (v := (0, 1)) (zRetB (by omega)) ?_
      rw [← hQ2]
      show zW E (d - 1) 101 7 [(0, a0)] [(0, 1)] m0 Q1
      refine zw_R zr_101_7 (by decide) zm_101 (v := (0, 1)) (zRetB (by omega)) ?_
      rw [← hQ1]
      show zW E (d) 102 4 [(2, 0), (0, a0), (0, a1), (0, a2), (0, a3), (0, a4)] [(0, 1)] m0 Q
      refine zw_40_1 zr_102_4 ?_ ?_
      · intro h26; omega
      · intro h27
        refine zw_7 zr_102_7 rfl ?_
        refine zw_46r (s := 1) zr_102_8 rfl rfl rfl rfl ?_
        refine zw_3 zr_102_11 rfl ?_
        refine zw_3 zr_102_12 rfl ?_
        refine zw_C zr_102_13 (Or.inl rfl) zm_50 rfl rfl ⟨Nat.le_of_ble_eq_true rfl, Nat.le_of_ble_eq_true rfl, Nat.le_of_ble_eq_true rfl, rfl, by decide⟩ (by omega) (P := (fun v m' => zW E (d) 102 16 [(2, 0), (0, a0), (0, a1), (0, a2), (0, a3), (0, a4)] (if v.1 = 9 then [] else v :: []) m' Q)) ?_ (fun _ _ h => h)
        generalize hQ1 : (fun v m' => zW E (d) 102 16 [(2, 0), (0, a0), (0, a1), (0, a2), (0, a3), (0, a4)] (if v.1 = 9 then [] else v :: []) m' Q) = Q1
        show zW E (d - 1) 50 0 [(2, 1), (0, a1), (0, a2)] [] m0 Q1
        refine zw_7 zr_50_0 rfl ?_
        refine zw_3 zr_50_1 rfl ?_
        refine zw_C zr_50_2 (Or.inl rfl) zm_49 rfl rfl ⟨Nat.le_of_ble_eq_true rfl, Nat.le_of_ble_eq_true rfl, Nat.le_of_ble_eq_true rfl, rfl, by decide⟩ (by omega) (P := (fun v m' => zW E (d - 1) 50 5 [(2, 1), (0, a1), (0, a2)] (if v.1 = 9 then [] else v :: []) m' Q1)) ?_ (fun _ _ h => h)
        generalize hQ2 : (fun v m' => zW E (d - 1) 50 5 [(2, 1), (0, a1), (0, a2)] (if v.1 = 9 then [] else v :: []) m' Q1) = Q2
        show zW E (d - 1 - 1) 49 0 [(2, 1), (0, a1)] [] m0 Q2
        refine zw_3 zr_49_0 rfl ?_
        refine zw_40_0 zr_49_1 ?_ ?_
        · intro h28
          refine zw_push zr_49_16 ?_
          refine zw_R zr_49_17 (by decide) zm_49 (v := (0, 0)) (zRetB (by omega)) ?_
          rw [← hQ2]
          show zW E (d - 1) 50 5 [(2, 1), (0, a1), (0, a2)] [(0, 0)] m0 Q1
          refine zw_40_1 zr_50_5 ?_ ?_
          · intro h29
            refine zw_push zr_50_25 ?_
            refine zw_R zr_50_26 (by decide) zm_50 (v := (0, 0)) (zRetB (by omega)) ?_
            rw [← hQ1]
            show zW E (d) 102 16 [(2, 0), (0, a0), (0, a1), (0, a2), (0, a3), (0, a4)] [(0, 0)] m0 Q
            refine zw_40_1 zr_102_16 ?_ ?_
            · intro h30
              refine zw_push zr_102_40 ?_
              refine zw_R zr_102_42 (by decide) zm_102 (v := (0, (-2))) rfl ?_
              rw [← hQ]; exact ⟨_, rfl, by omega, by omega, hI0, hF0, by omega, by omega, by rw [hG5]; first | exact (if_neg (by omega)).symm | exact (if_pos (by omega)).symm, by rw [hG6]; first | exact (if_neg (by omega)).symm | exact (if_pos (by omega)).symm, by rw [hG7]; first | exact (if_neg (by omega)).symm | exact (if_pos (by omega)).symm, by rw [hG8]; first | exact (if_neg (by omega)).symm | exact (if_pos (by omega)).symm, by omega, by omega⟩
            · intro h39; omega
          · intro h40; omega
        · intro h41
          refine zw_3 zr_49_4 rfl ?_
          refine zw_7 zr_49_5 rfl ?_
          refine zw_46i zr_49_6 hg0 rfl rfl rfl ?_
          refine zw_41_3 zr_49_9 ?_ ?_
          · intro h42
            refine zw_push zr_49_16 ?_
            refine zw_R zr_49_17 (by decide) zm_49 (v := (0, 0)) (zRetB (by omega)) ?_
            rw [← hQ2]
            show zW E (d - 1) 50 5 [(2, 1), (0, a1), (0, a2)] [(0, 0)] m0 Q1
            refine zw_40_1 zr_50_5 ?_ ?_
            · intro h43
              refine zw_push zr_50_25 ?_
              refine zw_R zr_50_26 (by decide) zm_50 (v := (0, 0)) (zRetB (by omega)) ?_
              rw [← hQ1]
              show zW E (d) 102 16 [(2, 0), (0, a0), (0, a1), (0, a2), (0, a3), (0, a4)] [(0, 0)] m0 Q
              refine zw_40_1 zr_102_16 ?_ ?_
              · intro h44
                refine zw_push zr_102_40 ?_
                refine zw_R zr_102_42 (by decide) zm_102 (v := (0, (-2))) rfl ?_
                rw [← hQ]; exact ⟨_, rfl, by omega, by omega, hI0, hF0, by omega, by omega, by rw [hG5]; first | exact (if_neg (by omega)).symm | exact (if_pos (by omega)).symm, by rw [hG6]; first | exact (if_neg (by omega)).symm | exact (if_pos (by omega)).symm, by rw [hG7]; first | exact (if_neg (by omega)).symm | exact (if_pos (by omega)).symm, by rw [hG8]; first | exact (if_neg (by omega)).symm | exact (if_pos (by omega)).symm, by omega, by omega⟩
              · intro h53; omega
            · intro h54; omega
          · intro h55
            refine zw_push zr_49_12 ?_
            refine zw_42 zr_49_13 ?_
            refine zw_R zr_49_17 (by decide) zm_49 (v := (0, 1)) (zRetB (by omega)) ?_
            rw [← hQ2]
            show zW E (d - 1) 50 5 [(2, 1), (0, a1), (0, a2)] [(0, 1)] m0 Q1
            refine zw_40_1 zr_50_5 ?_ ?_
            · intro h56; omega
            · intro h57
              refine zw_7 zr_50_8 rfl ?_
              refine zw_3 zr_50_9 rfl ?_
              refine zw_C zr_50_10 (Or.inl rfl) zm_49 rfl rfl ⟨Nat.le_of_ble_eq_true rfl, Nat.le_of_ble_eq_true rfl, Nat.le_of_ble_eq_true rfl, rfl, by decide⟩ (by omega) (P := (fun v m' => zW E (d - 1) 50 13 [(2, 1), (0, a1), (0, a2)] (if v.1 = 9 then [] else v :: []) m' Q1)) ?_ (fun _ _ h => h)
              generalize hQ2 : (fun v m' => zW E (d - 1) 50 13 [(2, 1), (0, a1), (0, a2)] (if v.1 = 9 then [] else v :: []) m' Q1) = Q2
              show zW E (d - 1 - 1) 49 0 [(2, 1), (0, a2)] [] m0 Q2
              refine zw_3 zr_49_0 rfl ?_
              refine zw_40_0 zr_49_1 ?_ ?_
              · intro h58
                refine zw_push zr_49_16 ?_
                refine zw_R zr_49_17 (by decide) zm_49 (v := (0, 0)) (zRetB (by omega)) ?_
                rw [← hQ2]
                show zW E (d - 1) 50 13 [(2, 1), (0, a1), (0, a2)] [(0, 0)] m0 Q1
                refine zw_40_1 zr_50_13 ?_ ?_
                · intro h59
                  refine zw_push zr_50_25 ?_
                  refine zw_R zr_50_26 (by decide) zm_50 (v := (0, 0)) (zRetB (by omega)) ?_
                  rw [← hQ1]
                  show zW E (d) 102 16 [(2, 0), (0, a0), (0, a1), (0, a2), (0, a3), (0, a4)] [(0, 0)] m0 Q
                  refine zw_40_1 zr_102_16 ?_ ?_
                  · intro h60
                    refine zw_push zr_102_40 ?_
                    refine zw_R zr_102_42 (by decide) zm_102 (v := (0, (-2))) rfl ?_
                    rw [← hQ]; exact ⟨_, rfl, by omega, by omega, hI0, hF0, by omega, by omega, by rw [hG5]; first | exact (if_neg (by omega)).symm | exact (if_pos (by omega)).symm, by rw [hG6]; first | exact (if_neg (by omega)).symm | exact (if_pos (by omega)).symm, by rw [hG7]; first | exact (if_neg (by omega)).symm | exact (if_pos (by omega)).symm, by rw [hG8]; first | exact (if_neg (by omega)).symm | exact (if_pos (by omega)).symm, by omega, by omega⟩
                  · intro h69; omega
                · intro h70; omega
              · intro h71
                refine zw_3 zr_49_4 rfl ?_
                refine zw_7 zr_49_5 rfl ?_
                refine zw_46i zr_49_6 hg0 rfl rfl rfl ?_
                refine zw_41_3 zr_49_9 ?_ ?_
                · intro h72
                  refine zw_push zr_49_16 ?_
                  refine zw_R zr_49_17 (by decide) zm_49 (v := (0, 0)) (zRetB (by omega)) ?_
                  rw [← hQ2]
                  show zW E (d - 1) 50 13 [(2, 1), (0, a1), (0, a2)] [(0, 0)] m0 Q1
                  refine zw_40_1 zr_50_13 ?_ ?_
                  · intro h73
                    refine zw_push zr_50_25 ?_
                    refine zw_R zr_50_26 (by decide) zm_50 (v := (0, 0)) (zRetB (by omega)) ?_
                    rw [← hQ1]
                    show zW E (d) 102 16 [(2, 0), (0, a0), (0, a1), (0, a2), (0, a3), (0, a4)] [(0, 0)] m0 Q
                    refine zw_40_1 zr_102_16 ?_ ?_
                    · intro h74
                      refine zw_push zr_102_40 ?_
                      refine zw_R zr_102_42 (by decide) zm_102 (v := (0, (-2))) rfl ?_
                      rw [← hQ]; exact ⟨_, rfl, by omega, by omega, hI0, hF0, by omega, by omega, by rw [hG5]; first | exact (if_neg (by omega)).symm | exact (if_pos (by omega)).symm, by rw [hG6]; first | exact (if_neg (by omega)).symm | exact (if_pos (by omega)).symm, by rw [hG7]; first | exact (if_neg (by omega)).symm | exact (if_pos (by omega)).symm, by rw [hG8]; first | exact (if_neg (by omega)).symm | exact (if_pos (by omega)).symm, by omega, by omega⟩
                    · intro h83; omega
                  · intro h84; omega
                · intro h85
                  refine zw_push zr_49_12 ?_
                  refine zw_42 zr_49_13 ?_
                  refine zw_R zr_49_17 (by decide) zm_49 (v := (0, 1)) (zRetB (by omega)) ?_
                  rw [← hQ2]
                  show zW E (d - 1) 50 13 [(2, 1), (0, a1), (0, a2)] [(0, 1)] m0 Q1
                  refine zw_40_1 zr_50_13 ?_ ?_
                  · intro h86; omega
                  · intro h87
                    refine zw_3 zr_50_16 rfl ?_
                    refine zw_3 zr_50_17 rfl ?_
                    refine zw_41_1 zr_50_18 ?_ ?_
                    · intro h88
                      refine zw_push zr_50_25 ?_
                      refine zw_R zr_50_26 (by decide) zm_50 (v := (0, 0)) (zRetB (by omega)) ?_
                      rw [← hQ1]
                      show zW E (d) 102 16 [(2, 0), (0, a0), (0, a1), (0, a2), (0, a3), (0, a4)] [(0, 0)] m0 Q
                      refine zw_40_1 zr_102_16 ?_ ?_
                      · intro h89
                        refine zw_push zr_102_40 ?_
                        refine zw_R zr_102_42 (by decide) zm_102 (v := (0, (-2))) rfl ?_
                        rw [← hQ]; exact ⟨_, rfl, by omega, by omega, hI0, hF0, by omega, by omega, by rw [hG5]; first | exact (if_neg (by omega)).symm | exact (if_pos (by omega)).symm, by rw [hG6]; first | exact (if_neg (by omega)).symm | exact (if_pos (by omega)).symm, by rw [hG7]; first | exact (if_neg (by omega)).symm | exact (if_pos (by omega)).symm, by rw [hG8]; first | exact (if_neg (by omega)).symm | exact (if_pos (by omega)).symm, by omega, by omega⟩
                      · intro h98; omega
                    · intro h99
                      refine zw_push zr_50_21 ?_
                      refine zw_42 zr_50_22 ?_
                      refine zw_R zr_50_26 (by decide) zm_50 (v := (0, 1)) (zRetB (by omega)) ?_
                      rw [← hQ1]
                      show zW E (d) 102 16 [(2, 0), (0, a0), (0, a1), (0, a2), (0, a3), (0, a4)] [(0, 1)] m0 Q
                      refine zw_40_1 zr_102_16 ?_ ?_
                      · intro h100; omega
                      · intro h101
                        refine zw_4 zr_102_19 rfl ?_
                        refine zw_push zr_102_21 ?_
                        refine zw_push zr_102_22 ?_
                        refine zw_C zr_102_23 (Or.inr rfl) zm_100 rfl rfl ⟨Nat.le_of_ble_eq_true rfl, Nat.le_of_ble_eq_true rfl, Nat.le_of_ble_eq_true rfl, rfl, by decide⟩ (by omega) (P := (fun v m' => zW E (d) 102 26 [(2, 0), (0, a0), (0, a1), (0, a2), (0, a3), (0, a4)] (if v.1 = 9 then [] else v :: []) m' Q)) ?_ (fun _ _ h => h)
                        generalize hQ1 : (fun v m' => zW E (d) 102 26 [(2, 0), (0, a0), (0, a1), (0, a2), (0, a3), (0, a4)] (if v.1 = 9 then [] else v :: []) m' Q) = Q1
                        show zW E (d - 1) 100 0 [(0, a3), (0, 0), (0, 2)] [] m0 Q1
                        refine zw_3 zr_100_0 rfl ?_
                        refine zw_3 zr_100_1 rfl ?_
                        refine zw_41_0 zr_100_2 ?_ ?_
                        · intro h102
                          refine zw_push zr_100_14 ?_
                          refine zw_R zr_100_15 (by decide) zm_100 (v := (0, 0)) (zRetB (by omega)) ?_
                          rw [← hQ1]
                          show zW E (d) 102 26 [(2, 0), (0, a0), (0, a1), (0, a2), (0, a3), (0, a4)] [(0, 0)] m0 Q
                          refine zw_40_1 zr_102_26 ?_ ?_
                          · intro h103
                            refine zw_push zr_102_40 ?_
                            refine zw_R zr_102_42 (by decide) zm_102 (v := (0, (-2))) rfl ?_
                            rw [← hQ]; exact ⟨_, rfl, by omega, by omega, hI0, hF0, by omega, by omega, by rw [hG5]; first | exact (if_neg (by omega)).symm | exact (if_pos (by omega)).symm, by rw [hG6]; first | exact (if_neg (by omega)).symm | exact (if_pos (by omega)).symm, by rw [hG7]; first | exact (if_neg (by omega)).symm | exact (if_pos (by omega)).symm, by rw [hG8]; first | exact (if_neg (by omega)).symm | exact (if_pos (by omega)).symm, by omega, by omega⟩
                          · intro h112; omega
                        · intro h113
                          refine zw_3 zr_100_5 rfl ?_
                          refine zw_3 zr_100_6 rfl ?_
                          refine zw_41_2 zr_100_7 ?_ ?_
                          · intro h114
                            refine zw_push zr_100_14 ?_
                            refine zw_R zr_100_15 (by decide) zm_100 (v := (0, 0)) (zRetB (by omega)) ?_
                            rw [← hQ1]
                            show zW E (d) 102 26 [(2, 0), (0, a0), (0, a1), (0, a2), (0, a3), (0, a4)] [(0, 0)] m0 Q
                            refine zw_40_1 zr_102_26 ?_ ?_
                            · intro h115
                              refine zw_push zr_102_40 ?_
                              refine zw_R zr_102_42 (by decide) zm_102 (v := (0, (-2))) rfl ?_
                              rw [← hQ]; exact ⟨_, rfl, by omega, by omega, hI0, hF0, by omega, by omega, by rw [hG5]; first | exact (if_neg (by omega)).symm | exact (if_pos (by omega)).symm, by rw [hG6]; first | exact (if_neg (by omega)).symm | exact (if_pos (by omega)).symm, by rw [hG7]; first | exact (if_neg (by omega)).symm | exact (if_pos (by omega)).symm, by rw [hG8]; first | exact (if_neg (by omega)).symm | exact (if_pos (by omega)).symm, by omega, by omega⟩
                            · intro h124; omega
                          · intro h125
                            refine zw_push zr_100_10 ?_
                            refine zw_42 zr_100_11 ?_
                            refine zw_R zr_100_15 (by decide) zm_100 (v := (0, 1)) (zRetB (by omega)) ?_
                            rw [← hQ1]
                            show zW E (d) 102 26 [(2, 0), (0, a0), (0, a1), (0, a2), (0, a3), (0, a4)] [(0, 1)] m0 Q
                            refine zw_40_1 zr_102_26 ?_ ?_
                            · intro h126; omega
                            · intro h127
                              refine zw_3 zr_102_29 rfl ?_
                              refine zw_7 zr_102_30 rfl ?_
                              refine zw_46r (s := 1) zr_102_31 rfl rfl rfl rfl ?_
                              refine zw_C zr_102_34 (Or.inl rfl) zm_51 rfl rfl ⟨Nat.le_of_ble_eq_true rfl, Nat.le_of_ble_eq_true rfl, Nat.le_of_ble_eq_true rfl, rfl, by decide⟩ (by omega) (P := (fun v m' => zW E (d) 102 37 [(2, 0), (0, a0), (0, a1), (0, a2), (0, a3), (0, a4)] (if v.1 = 9 then [(0, a0)] else v :: [(0, a0)]) m' Q)) ?_ (fun _ _ h => h)
                              generalize hQ1 : (fun v m' => zW E (d) 102 37 [(2, 0), (0, a0), (0, a1), (0, a2), (0, a3), (0, a4)] (if v.1 = 9 then [(0, a0)] else v :: [(0, a0)]) m' Q) = Q1
                              show zW E (d - 1) 51 0 [(2, 1)] [] m0 Q1
                              refine zw_7 zr_51_0 rfl ?_
                              refine zw_46i zr_51_1 hg1 rfl rfl rfl ?_
                              refine zw_40_5 zr_51_4 ?_ ?_
                              · intro h128
                                refine zw_push zr_51_21 ?_
                                refine zw_R zr_51_22 (by decide) zm_51 (v := (0, 0)) rfl ?_
                                rw [← hQ1]
                                show zW E (d) 102 37 [(2, 0), (0, a0), (0, a1), (0, a2), (0, a3), (0, a4)] [(0, 0), (0, a0)] m0 Q
                                refine zw_41_3 zr_102_37 ?_ ?_
                                · intro h129
                                  refine zw_7 zr_102_43 rfl ?_
                                  refine zw_46r (s := 1) zr_102_44 rfl rfl rfl rfl ?_
                                  refine zw_46i zr_102_47 hg1 rfl rfl rfl ?_
                                  refine zw_push zr_102_50 ?_
                                  refine zw_41_0 zr_102_52 ?_ ?_
                                  · intro h130
                                    refine zw_7 zr_102_58 rfl ?_
                                    refine zw_46r (s := 1) zr_102_59 rfl rfl rfl rfl ?_
                                    refine zw_3 zr_102_62 rfl ?_
                                    refine zw_3 zr_102_63 rfl ?_
                                    refine zw_3 zr_102_64 rfl ?_
                                    refine zw_4 zr_102_65 rfl ?_
                                    refine zw_4 zr_102_67 rfl ?_
                                    refine zw_C zr_102_69 (Or.inl rfl) zm_52 rfl rfl ⟨Nat.le_of_ble_eq_true rfl, Nat.le_of_ble_eq_true rfl, Nat.le_of_ble_eq_true rfl, rfl, by decide⟩ (by omega) (P := (fun v m' => zW E (d) 102 72 [(2, 0), (0, a0), (0, a1), (0, a2), (0, a3), (0, a4)] (if v.1 = 9 then [] else v :: []) m' Q)) ?_ (fun _ _ h => h)
                                    generalize hQ1 : (fun v m' => zW E (d) 102 72 [(2, 0), (0, a0), (0, a1), (0, a2), (0, a3), (0, a4)] (if v.1 = 9 then [] else v :: []) m' Q) = Q1
                                    show zW E (d - 1) 52 0 [(2, 1), (0, a0), (0, a1), (0, a2), (0, a3), (0, a4), (9, 0)] [] m0 Q1
                                    refine zw_7 zr_52_0 rfl ?_
                                    refine zw_46i zr_52_1 hg1 rfl rfl rfl ?_
                                    refine zw_10 (L' := [(2, 1), (0, a0), (0, a1), (0, a2), (0, a3), (0, a4), (0, g1)]) zr_52_4 (Nat.le_of_ble_eq_true rfl) rfl ?_
                                    refine zw_7 zr_52_6 rfl ?_
                                    refine zw_46r (s := 5) zr_52_7 rfl rfl rfl rfl ?_
                                    refine zw_4 zr_52_10 rfl ?_
                                    refine zw_3 zr_52_12 rfl ?_
                                    refine zw_49 (c := 5) (len := 60) zr_52_13 rfl rfl (by omega) (by omega) ?_
                                    intro m131 em131
                                    have hIm131 : zInv m131 := by rw [em131]; exact iu_5 hI0 (by omega)
                                    have hFm131 : zFr W_102 m0 m131 := by rw [em131]; exact hF0.any rfl
                                    have km131_1_0 : m131 1 0 = g0 := by rw [em131, zUp_ne (by omega)]; exact hg0
                                    have km131_1_1 : m131 1 1 = g1 := by rw [em131, zUp_ne (by omega)]; exact hg1
                                    have km131_1_2 : m131 1 2 = g2 := by rw [em131, zUp_ne (by omega)]; exact hg2
                                    have km131_5_0 : m131 5 0 = a0 := by rw [em131, show (g1 : Int).toNat = 0 by omega]; exact zUp_eq _ _ _ _
                                    have fm131_5 : m131 5 = zPt F5 ((g1).toNat) a0 := by rw [em131]; exact (zUp_ff (m := m0)).trans (congrArg (fun q => zPt q ((g1).toNat) a0) hG5)
                                    have fm131_6 : m131 6 = F6 := by rw [em131, zUp_fn (by decide)]; exact hG6
                                    have fm131_7 : m131 7 = F7 := by rw [em131, zUp_fn (by decide)]; exact hG7
                                    have fm131_8 : m131 8 = F8 := by rw [em131, zUp_fn (by decide)]; exact hG8
                                    clear em131
                                    refine zw_7 zr_52_14 rfl ?_
                                    refine zw_46r (s := 6) zr_52_15 rfl rfl rfl rfl ?_
                                    refine zw_4 zr_52_18 rfl ?_
                                    refine zw_3 zr_52_20 rfl ?_
                                    refine zw_49 (c := 6) (len := 60) zr_52_21 rfl rfl (by omega) (by omega) ?_
                                    intro m132 em132
                                    have hIm132 : zInv m132 := by rw [em132]; exact iu_6 hIm131 (by omega)
                                    have hFm132 : zFr W_102 m0 m132 := by rw [em132]; exact hFm131.any rfl
                                    have km132_1_0 : m132 1 0 = g0 := by rw [em132, zUp_ne (by omega)]; exact km131_1_0
                                    have km132_1_1 : m132 1 1 = g1 := by rw [em132, zUp_ne (by omega)]; exact km131_1_1
                                    have km132_1_2 : m132 1 2 = g2 := by rw [em132, zUp_ne (by omega)]; exact km131_1_2
                                    have km132_5_0 : m132 5 0 = a0 := by rw [em132, zUp_ne (by omega)]; exact km131_5_0
                                    have km132_6_0 : m132 6 0 = a1 := by rw [em132, show (g1 : Int).toNat = 0 by omega]; exact zUp_eq _ _ _ _
                                    have fm132_5 : m132 5 = zPt F5 ((g1).toNat) a0 := by rw [em132, zUp_fn (by decide)]; exact fm131_5
                                    have fm132_6 : m132 6 = zPt F6 ((g1).toNat) a1 := by rw [em132]; exact (zUp_ff (m := m131)).trans (congrArg (fun q => zPt q ((g1).toNat) a1) fm131_6)
                                    have fm132_7 : m132 7 = F7 := by rw [em132, zUp_fn (by decide)]; exact fm131_7
                                    have fm132_8 : m132 8 = F8 := by rw [em132, zUp_fn (by decide)]; exact fm131_8
                                    clear em132
                                    refine zw_7 zr_52_22 rfl ?_
                                    refine zw_46r (s := 7) zr_52_23 rfl rfl rfl rfl ?_
                                    refine zw_4 zr_52_26 rfl ?_
                                    refine zw_3 zr_52_28 rfl ?_
                                    refine zw_49 (c := 7) (len := 60) zr_52_29 rfl rfl (by omega) (by omega) ?_
                                    intro m133 em133
                                    have hIm133 : zInv m133 := by rw [em133]; exact iu_7 hIm132 (by omega)
                                    have hFm133 : zFr W_102 m0 m133 := by rw [em133]; exact hFm132.any rfl
                                    have km133_1_0 : m133 1 0 = g0 := by rw [em133, zUp_ne (by omega)]; exact km132_1_0
                                    have km133_1_1 : m133 1 1 = g1 := by rw [em133, zUp_ne (by omega)]; exact km132_1_1
                                    have km133_1_2 : m133 1 2 = g2 := by rw [em133, zUp_ne (by omega)]; exact km132_1_2
                                    have km133_5_0 : m133 5 0 = a0 := by rw [em133, zUp_ne (by omega)]; exact km132_5_0
                                    have km133_6_0 : m133 6 0 = a1 := by rw [em133, zUp_ne (by omega)]; exact km132_6_0
                                    have km133_7_0 : m133 7 0 = a2 := by rw [em133, show (g1 : Int).toNat = 0 by omega]; exact zUp_eq _ _ _ _
                                    have fm133_5 : m133 5 = zPt F5 ((g1).toNat) a0 := by rw [em133, zUp_fn (by decide)]; exact fm132_5
                                    have fm133_6 : m133 6 = zPt F6 ((g1).toNat) a1 := by rw [em133, zUp_fn (by decide)]; exact fm132_6
                                    have fm133_7 : m133 7 = zPt F7 ((g1).toNat) a2 := by rw [em133]; exact (zUp_ff (m := m132)).trans (congrArg (fun q => zPt q ((g1).toNat) a2) fm132_7)
                                    have fm133_8 : m133 8 = F8 := by rw [em133, zUp_fn (by decide)]; exact fm132_8
                                    clear em133
                                    refine zw_7 zr_52_30 rfl ?_
                                    refine zw_46r (s := 8) zr_52_31 rfl rfl rfl rfl ?_
                                    refine zw_4 zr_52_34 rfl ?_
                                    refine zw_4 zr_52_36 rfl ?_
                                    refine zw_49 (c := 8) (len := 60) zr_52_38 rfl rfl (by omega) (by omega) ?_
                                    intro m134 em134
                                    have hIm134 : zInv m134 := by rw [em134]; exact iu_8 hIm133 (by omega)
                                    have hFm134 : zFr W_102 m0 m134 := by rw [em134]; exact hFm133.any rfl
                                    have km134_1_0 : m134 1 0 = g0 := by rw [em134, zUp_ne (by omega)]; exact km133_1_0
                                    have km134_1_1 : m134 1 1 = g1 := by rw [em134, zUp_ne (by omega)]; exact km133_1_1
                                    have km134_1_2 : m134 1 2 = g2 := by rw [em134, zUp_ne (by omega)]; exact km133_1_2
                                    have km134_5_0 : m134 5 0 = a0 := by rw [em134, zUp_ne (by omega)]; exact km133_5_0
                                    have km134_6_0 : m134 6 0 = a1 := by rw [em134, zUp_ne (by omega)]; exact km133_6_0
                                    have km134_7_0 : m134 7 0 = a2 := by rw [em134, zUp_ne (by omega)]; exact km133_7_0
                                    have km134_8_0 : m134 8 0 = a3 := by rw [em134, show (g1 : Int).toNat = 0 by omega]; exact zUp_eq _ _ _ _
                                    have fm134_5 : m134 5 = zPt F5 ((g1).toNat) a0 := by rw [em134, zUp_fn (by decide)]; exact fm133_5
                                    have fm134_6 : m134 6 = zPt F6 ((g1).toNat) a1 := by rw [em134, zUp_fn (by decide)]; exact fm133_6
                                    have fm134_7 : m134 7 = zPt F7 ((g1).toNat) a2 := by rw [em134, zUp_fn (by decide)]; exact fm133_7
                                    have fm134_8 : m134 8 = zPt F8 ((g1).toNat) a3 := by rw [em134]; exact (zUp_ff (m := m133)).trans (congrArg (fun q => zPt q ((g1).toNat) a3) fm133_8)
                                    clear em134
                                    refine zw_4 zr_52_39 rfl ?_
                                    refine zw_40_1 zr_52_41 ?_ ?_
                                    · intro h135
                                      refine zw_7 zr_52_57 rfl ?_
                                      refine zw_43 zr_52_58 rfl ?_
                                      refine zw_46i zr_52_59 km134_1_1 rfl rfl rfl ?_
                                      refine zw_push zr_52_62 ?_
                                      refine zw_16 zr_52_63 (by omega) ?_
                                      refine zw_47 (c := 1) zr_52_64 rfl ⟨rfl, by decide, rfl⟩ ?_
                                      intro m136 em136
                                      have hIm136 : zInv m136 := by rw [em136]; exact hIm134.bd (r := 1) (k := 1) (lo := 0) (hi := 60) rfl (by omega) (by decide) (by decide) (by decide)
                                      have hFm136 : zFr W_102 m0 m136 := by rw [em136]; exact hFm134.up rfl
                                      have km136_1_0 : m136 1 0 = g0 := by rw [em136, zUp_ne (by omega)]; exact km134_1_0
                                      have km136_1_2 : m136 1 2 = g2 := by rw [em136, zUp_ne (by omega)]; exact km134_1_2
                                      have km136_5_0 : m136 5 0 = a0 := by rw [em136, zUp_ne (by omega)]; exact km134_5_0
                                      have km136_6_0 : m136 6 0 = a1 := by rw [em136, zUp_ne (by omega)]; exact km134_6_0
                                      have km136_7_0 : m136 7 0 = a2 := by rw [em136, zUp_ne (by omega)]; exact km134_7_0
                                      have km136_8_0 : m136 8 0 = a3 := by rw [em136, zUp_ne (by omega)]; exact km134_8_0
                                      have km136_1_1 : m136 1 1 = (g1 + 1) := by rw [em136]; exact zUp_eq _ _ _ _
                                      have fm136_5 : m136 5 = zPt F5 ((g1).toNat) a0 := by rw [em136, zUp_fn (by decide)]; exact fm134_5
                                      have fm136_6 : m136 6 = zPt F6 ((g1).toNat) a1 := by rw [em136, zUp_fn (by decide)]; exact fm134_6
                                      have fm136_7 : m136 7 = zPt F7 ((g1).toNat) a2 := by rw [em136, zUp_fn (by decide)]; exact fm134_7
                                      have fm136_8 : m136 8 = zPt F8 ((g1).toNat) a3 := by rw [em136, zUp_fn (by decide)]; exact fm134_8
                                      clear em136
                                      refine zw_4 zr_52_67 rfl ?_
                                      refine zw_R zr_52_69 (by decide) zm_52 (v := (0, g1)) rfl ?_
                                      rw [← hQ1]
                                      show zW E (d) 102 72 [(2, 0), (0, a0), (0, a1), (0, a2), (0, a3), (0, a4)] [(0, g1)] m136 Q
                                      refine zw_R zr_102_72 (by decide) zm_102 (v := (0, g1)) rfl ?_
                                      rw [← hQ]; exact ⟨_, rfl, by omega, by omega, hIm136, hFm136, by omega, by omega, by rw [fm136_5]; first | exact (if_neg (by omega)).symm | exact (if_pos (by omega)).symm, by rw [fm136_6]; first | exact (if_neg (by omega)).symm | exact (if_pos (by omega)).symm, by rw [fm136_7]; first | exact (if_neg (by omega)).symm | exact (if_pos (by omega)).symm, by rw [fm136_8]; first | exact (if_neg (by omega)).symm | exact (if_pos (by omega)).symm, by omega, by omega⟩
                                    · intro h145
                                      refine zw_7 zr_52_44 rfl ?_
                                      refine zw_43 zr_52_45 rfl ?_
                                      refine zw_46l zr_52_46 km134_1_2 rfl rfl rfl ?_
                                      refine zw_push zr_52_49 ?_
                                      refine zw_4 zr_52_50 rfl ?_
                                      refine zw_33p zr_52_52 (by omega) ?_
                                      intro x146 ex146 hx146a hx146b
                                      refine zw_31p (s := g1) zr_52_53 ex146 (by omega) (by omega) ?_
                                      intro x147 ex147 hx147a hx147b
                                      refine zw_47 (c := 1) zr_52_54 rfl ⟨rfl, by decide, rfl⟩ ?_
                                      intro m148 em148
                                      have hIm148 : zInv m148 := by rw [em148]; exact hIm134.bdl (r := 1) (k := 2) (lo := 0) (hi := 1152921504606846975) rfl (by omega) (by decide) (by decide) (by decide) (by decide)
                                      have hFm148 : zFr W_102 m0 m148 := by rw [em148]; exact hFm134.up rfl
                                      have km148_1_0 : m148 1 0 = g0 := by rw [em148, zUp_ne (by omega)]; exact km134_1_0
                                      have km148_1_1 : m148 1 1 = g1 := by rw [em148, zUp_ne (by omega)]; exact km134_1_1
                                      have km148_5_0 : m148 5 0 = a0 := by rw [em148, zUp_ne (by omega)]; exact km134_5_0
                                      have km148_6_0 : m148 6 0 = a1 := by rw [em148, zUp_ne (by omega)]; exact km134_6_0
                                      have km148_7_0 : m148 7 0 = a2 := by rw [em148, zUp_ne (by omega)]; exact km134_7_0
                                      have km148_8_0 : m148 8 0 = a3 := by rw [em148, zUp_ne (by omega)]; exact km134_8_0
                                      have km148_1_2 : m148 1 2 = x147 := by rw [em148]; exact zUp_eq _ _ _ _
                                      have fm148_5 : m148 5 = zPt F5 ((g1).toNat) a0 := by rw [em148, zUp_fn (by decide)]; exact fm134_5
                                      have fm148_6 : m148 6 = zPt F6 ((g1).toNat) a1 := by rw [em148, zUp_fn (by decide)]; exact fm134_6
                                      have fm148_7 : m148 7 = zPt F7 ((g1).toNat) a2 := by rw [em148, zUp_fn (by decide)]; exact fm134_7
                                      have fm148_8 : m148 8 = zPt F8 ((g1).toNat) a3 := by rw [em148, zUp_fn (by decide)]; exact fm134_8
                                      clear em148
                                      refine zw_7 zr_52_57 rfl ?_
                                      refine zw_43 zr_52_58 rfl ?_
                                      refine zw_46i zr_52_59 km148_1_1 rfl rfl rfl ?_
                                      refine zw_push zr_52_62 ?_
                                      refine zw_16 zr_52_63 (by omega) ?_
                                      refine zw_47 (c := 1) zr_52_64 rfl ⟨rfl, by decide, rfl⟩ ?_
                                      intro m149 em149
                                      have hIm149 : zInv m149 := by rw [em149]; exact hIm148.bd (r := 1) (k := 1) (lo := 0) (hi := 60) rfl (by omega) (by decide) (by decide) (by decide)
                                      have hFm149 : zFr W_102 m0 m149 := by rw [em149]; exact hFm148.up rfl
                                      have km149_1_0 : m149 1 0 = g0 := by rw [em149, zUp_ne (by omega)]; exact km148_1_0
                                      have km149_5_0 : m149 5 0 = a0 := by rw [em149, zUp_ne (by omega)]; exact km148_5_0
                                      have km149_6_0 : m149 6 0 = a1 := by rw [em149, zUp_ne (by omega)]; exact km148_6_0
                                      have km149_7_0 : m149 7 0 = a2 := by rw [em149, zUp_ne (by omega)]; exact km148_7_0
                                      have km149_8_0 : m149 8 0 = a3 := by rw [em149, zUp_ne (by omega)]; exact km148_8_0
                                      have km149_1_2 : m149 1 2 = x147 := by rw [em149, zUp_ne (by omega)]; exact km148_1_2
                                      have km149_1_1 : m149 1 1 = (g1 + 1) := by rw [em149]; exact zUp_eq _ _ _ _
                                      have fm149_5 : m149 5 = zPt F5 ((g1).toNat) a0 := by rw [em149, zUp_fn (by decide)]; exact fm148_5
                                      have fm149_6 : m149 6 = zPt F6 ((g1).toNat) a1 := by rw [em149, zUp_fn (by decide)]; exact fm148_6
                                      have fm149_7 : m149 7 = zPt F7 ((g1).toNat) a2 := by rw [em149, zUp_fn (by decide)]; exact fm148_7
                                      have fm149_8 : m149 8 = zPt F8 ((g1).toNat) a3 := by rw [em149, zUp_fn (by decide)]; exact fm148_8
                                      clear em149
                                      refine zw_4 zr_52_67 rfl ?_
                                      refine zw_R zr_52_69 (by decide) zm_52 (v := (0, g1)) rfl ?_
                                      rw [← hQ1]
                                      show zW E (d) 102 72 [(2, 0), (0, a0), (0, a1), (0, a2), (0, a3), (0, a4)] [(0, g1)] m149 Q
                                      refine zw_R zr_102_72 (by decide) zm_102 (v := (0, g1)) rfl ?_
                                      rw [← hQ]; exact ⟨_, rfl, by omega, by omega, hIm149, hFm149, by omega, by omega, by rw [fm149_5]; first | exact (if_neg (by omega)).symm | exact (if_pos (by omega)).symm, by rw [fm149_6]; first | exact (if_neg (by omega)).symm | exact (if_pos (by omega)).symm, by rw [fm149_7]; first | exact (if_neg (by omega)).symm | exact (if_pos (by omega)).symm, by rw [fm149_8]; first | exact (if_neg (by omega)).symm | exact (if_pos (by omega)).symm, by omega, by omega⟩
                                  · intro h158; omega
                                · intro h159; omega
                              · intro h160
                                refine zw_7 zr_51_7 rfl ?_
                                refine zw_46r (s := 5) zr_51_8 rfl rfl rfl rfl ?_
                                refine zw_7 zr_51_11 rfl ?_
                                refine zw_46i zr_51_12 hg1 rfl rfl rfl ?_
                                refine zw_push zr_51_15 ?_
                                refine zw_17 zr_51_16 (by omega) ?_
                                refine zw_48 (c := 5) (len := 60) zr_51_17 rfl rfl (by omega) (by omega) ?_
                                intro x161 ex161
                                have bx161 := ib_5 hI0 (k := ((g1 - 1)).toNat) (by omega)
                                rw [← ex161] at bx161
                                have qx161 : x161 = F5 ((g1 - 1)).toNat := by rw [← hG5]; exact ex161
                                clear ex161
                                refine zw_42 zr_51_18 ?_
                                refine zw_R zr_51_22 (by decide) zm_51 (v := (0, x161)) rfl ?_
                                rw [← hQ1]
                                show zW E (d) 102 37 [(2, 0), (0, a0), (0, a1), (0, a2), (0, a3), (0, a4)] [(0, x161), (0, a0)] m0 Q
                                refine zw_41_3 zr_102_37 ?_ ?_
                                · intro h162
                                  refine zw_7 zr_102_43 rfl ?_
                                  refine zw_46r (s := 1) zr_102_44 rfl rfl rfl rfl ?_
                                  refine zw_46i zr_102_47 hg1 rfl rfl rfl ?_
                                  refine zw_push zr_102_50 ?_
                                  refine zw_41_0 zr_102_52 ?_ ?_
                                  · intro h163
                                    refine zw_7 zr_102_58 rfl ?_
                                    refine zw_46r (s := 1) zr_102_59 rfl rfl rfl rfl ?_
                                    refine zw_3 zr_102_62 rfl ?_
                                    refine zw_3 zr_102_63 rfl ?_
                                    refine zw_3 zr_102_64 rfl ?_
                                    refine zw_4 zr_102_65 rfl ?_
                                    refine zw_4 zr_102_67 rfl ?_
                                    refine zw_C zr_102_69 (Or.inl rfl) zm_52 rfl rfl ⟨Nat.le_of_ble_eq_true rfl, Nat.le_of_ble_eq_true rfl, Nat.le_of_ble_eq_true rfl, rfl, by decide⟩ (by omega) (P := (fun v m' => zW E (d) 102 72 [(2, 0), (0, a0), (0, a1), (0, a2), (0, a3), (0, a4)] (if v.1 = 9 then [] else v :: []) m' Q)) ?_ (fun _ _ h => h)
                                    generalize hQ1 : (fun v m' => zW E (d) 102 72 [(2, 0), (0, a0), (0, a1), (0, a2), (0, a3), (0, a4)] (if v.1 = 9 then [] else v :: []) m' Q) = Q1
                                    show zW E (d - 1) 52 0 [(2, 1), (0, a0), (0, a1), (0, a2), (0, a3), (0, a4), (9, 0)] [] m0 Q1
                                    refine zw_7 zr_52_0 rfl ?_
                                    refine zw_46i zr_52_1 hg1 rfl rfl rfl ?_
                                    refine zw_10 (L' := [(2, 1), (0, a0), (0, a1), (0, a2), (0, a3), (0, a4), (0, g1)]) zr_52_4 (Nat.le_of_ble_eq_true rfl) rfl ?_
                                    refine zw_7 zr_52_6 rfl ?_
                                    refine zw_46r (s := 5) zr_52_7 rfl rfl rfl rfl ?_
                                    refine zw_4 zr_52_10 rfl ?_
                                    refine zw_3 zr_52_12 rfl ?_
                                    refine zw_49 (c := 5) (len := 60) zr_52_13 rfl rfl (by omega) (by omega) ?_
                                    intro m164 em164
                                    have hIm164 : zInv m164 := by rw [em164]; exact iu_5 hI0 (by omega)
                                    have hFm164 : zFr W_102 m0 m164 := by rw [em164]; exact hF0.any rfl
                                    have km164_1_0 : m164 1 0 = g0 := by rw [em164, zUp_ne (by omega)]; exact hg0
                                    have km164_1_1 : m164 1 1 = g1 := by rw [em164, zUp_ne (by omega)]; exact hg1
                                    have km164_1_2 : m164 1 2 = g2 := by rw [em164, zUp_ne (by omega)]; exact hg2
                                    have fm164_5 : m164 5 = zPt F5 ((g1).toNat) a0 := by rw [em164]; exact (zUp_ff (m := m0)).trans (congrArg (fun q => zPt q ((g1).toNat) a0) hG5)
                                    have fm164_6 : m164 6 = F6 := by rw [em164, zUp_fn (by decide)]; exact hG6
                                    have fm164_7 : m164 7 = F7 := by rw [em164, zUp_fn (by decide)]; exact hG7
                                    have fm164_8 : m164 8 = F8 := by rw [em164, zUp_fn (by decide)]; exact hG8
                                    clear em164
                                    refine zw_7 zr_52_14 rfl ?_
                                    refine zw_46r (s := 6) zr_52_15 rfl rfl rfl rfl ?_
                                    refine zw_4 zr_52_18 rfl ?_
                                    refine zw_3 zr_52_20 rfl ?_
                                    refine zw_49 (c := 6) (len := 60) zr_52_21 rfl rfl (by omega) (by omega) ?_
                                    intro m165 em165
                                    have hIm165 : zInv m165 := by rw [em165]; exact iu_6 hIm164 (by omega)
                                    have hFm165 : zFr W_102 m0 m165 := by rw [em165]; exact hFm164.any rfl
                                    have km165_1_0 : m165 1 0 = g0 := by rw [em165, zUp_ne (by omega)]; exact km164_1_0
                                    have km165_1_1 : m165 1 1 = g1 := by rw [em165, zUp_ne (by omega)]; exact km164_1_1
                                    have km165_1_2 : m165 1 2 = g2 := by rw [em165, zUp_ne (by omega)]; exact km164_1_2
                                    have fm165_5 : m165 5 = zPt F5 ((g1).toNat) a0 := by rw [em165, zUp_fn (by decide)]; exact fm164_5
                                    have fm165_6 : m165 6 = zPt F6 ((g1).toNat) a1 := by rw [em165]; exact (zUp_ff (m := m164)).trans (congrArg (fun q => zPt q ((g1).toNat) a1) fm164_6)
                                    have fm165_7 : m165 7 = F7 := by rw [em165, zUp_fn (by decide)]; exact fm164_7
                                    have fm165_8 : m165 8 = F8 := by rw [em165, zUp_fn (by decide)]; exact fm164_8
                                    clear em165
                                    refine zw_7 zr_52_22 rfl ?_
                                    refine zw_46r (s := 7) zr_52_23 rfl rfl rfl rfl ?_
                                    refine zw_4 zr_52_26 rfl ?_
                                    refine zw_3 zr_52_28 rfl ?_
                                    refine zw_49 (c := 7) (len := 60) zr_52_29 rfl rfl (by omega) (by omega) ?_
                                    intro m166 em166
                                    have hIm166 : zInv m166 := by rw [em166]; exact iu_7 hIm165 (by omega)
                                    have hFm166 : zFr W_102 m0 m166 := by rw [em166]; exact hFm165.any rfl
                                    have km166_1_0 : m166 1 0 = g0 := by rw [em166, zUp_ne (by omega)]; exact km165_1_0
                                    have km166_1_1 : m166 1 1 = g1 := by rw [em166, zUp_ne (by omega)]; exact km165_1_1
                                    have km166_1_2 : m166 1 2 = g2 := by rw [em166, zUp_ne (by omega)]; exact km165_1_2
                                    have fm166_5 : m166 5 = zPt F5 ((g1).toNat) a0 := by rw [em166, zUp_fn (by decide)]; exact fm165_5
                                    have fm166_6 : m166 6 = zPt F6 ((g1).toNat) a1 := by rw [em166, zUp_fn (by decide)]; exact fm165_6
                                    have fm166_7 : m166 7 = zPt F7 ((g1).toNat) a2 := by rw [em166]; exact (zUp_ff (m := m165)).trans (congrArg (fun q => zPt q ((g1).toNat) a2) fm165_7)
                                    have fm166_8 : m166 8 = F8 := by rw [em166, zUp_fn (by decide)]; exact fm165_8
                                    clear em166
                                    refine zw_7 zr_52_30 rfl ?_
                                    refine zw_46r (s := 8) zr_52_31 rfl rfl rfl rfl ?_
                                    refine zw_4 zr_52_34 rfl ?_
                                    refine zw_4 zr_52_36 rfl ?_
                                    refine zw_49 (c := 8) (len := 60) zr_52_38 rfl rfl (by omega) (by omega) ?_
                                    intro m167 em167
                                    have hIm167 : zInv m167 := by rw [em167]; exact iu_8 hIm166 (by omega)
                                    have hFm167 : zFr W_102 m0 m167 := by rw [em167]; exact hFm166.any rfl
                                    have km167_1_0 : m167 1 0 = g0 := by rw [em167, zUp_ne (by omega)]; exact km166_1_0
                                    have km167_1_1 : m167 1 1 = g1 := by rw [em167, zUp_ne (by omega)]; exact km166_1_1
                                    have km167_1_2 : m167 1 2 = g2 := by rw [em167, zUp_ne (by omega)]; exact km166_1_2
                                    have fm167_5 : m167 5 = zPt F5 ((g1).toNat) a0 := by rw [em167, zUp_fn (by decide)]; exact fm166_5
                                    have fm167_6 : m167 6 = zPt F6 ((g1).toNat) a1 := by rw [em167, zUp_fn (by decide)]; exact fm166_6
                                    have fm167_7 : m167 7 = zPt F7 ((g1).toNat) a2 := by rw [em167, zUp_fn (by decide)]; exact fm166_7
                                    have fm167_8 : m167 8 = zPt F8 ((g1).toNat) a3 := by rw [em167]; exact (zUp_ff (m := m166)).trans (congrArg (fun q => zPt q ((g1).toNat) a3) fm166_8)
                                    clear em167
                                    refine zw_4 zr_52_39 rfl ?_
                                    refine zw_40_1 zr_52_41 ?_ ?_
                                    · intro h168
                                      refine zw_7 zr_52_57 rfl ?_
                                      refine zw_43 zr_52_58 rfl ?_
                                      refine zw_46i zr_52_59 km167_1_1 rfl rfl rfl ?_
                                      refine zw_push zr_52_62 ?_
                                      refine zw_16 zr_52_63 (by omega) ?_
                                      refine zw_47 (c := 1) zr_52_64 rfl ⟨rfl, by decide, rfl⟩ ?_
                                      intro m169 em169
                                      have hIm169 : zInv m169 := by rw [em169]; exact hIm167.bd (r := 1) (k := 1) (lo := 0) (hi := 60) rfl (by omega) (by decide) (by decide) (by decide)
                                      have hFm169 : zFr W_102 m0 m169 := by rw [em169]; exact hFm167.up rfl
                                      have km169_1_0 : m169 1 0 = g0 := by rw [em169, zUp_ne (by omega)]; exact km167_1_0
                                      have km169_1_2 : m169 1 2 = g2 := by rw [em169, zUp_ne (by omega)]; exact km167_1_2
                                      have km169_1_1 : m169 1 1 = (g1 + 1) := by rw [em169]; exact zUp_eq _ _ _ _
                                      have fm169_5 : m169 5 = zPt F5 ((g1).toNat) a0 := by rw [em169, zUp_fn (by decide)]; exact fm167_5
                                      have fm169_6 : m169 6 = zPt F6 ((g1).toNat) a1 := by rw [em169, zUp_fn (by decide)]; exact fm167_6
                                      have fm169_7 : m169 7 = zPt F7 ((g1).toNat) a2 := by rw [em169, zUp_fn (by decide)]; exact fm167_7
                                      have fm169_8 : m169 8 = zPt F8 ((g1).toNat) a3 := by rw [em169, zUp_fn (by decide)]; exact fm167_8
                                      clear em169
                                      refine zw_4 zr_52_67 rfl ?_
                                      refine zw_R zr_52_69 (by decide) zm_52 (v := (0, g1)) rfl ?_
                                      rw [← hQ1]
                                      show zW E (d) 102 72 [(2, 0), (0, a0), (0, a1), (0, a2), (0, a3), (0, a4)] [(0, g1)] m169 Q
                                      refine zw_R zr_102_72 (by decide) zm_102 (v := (0, g1)) rfl ?_
                                      rw [← hQ]; exact ⟨_, rfl, by omega, by omega, hIm169, hFm169, by omega, by omega, by rw [fm169_5]; first | exact (if_neg (by omega)).symm | exact (if_pos (by omega)).symm, by rw [fm169_6]; first | exact (if_neg (by omega)).symm | exact (if_pos (by omega)).symm, by rw [fm169_7]; first | exact (if_neg (by omega)).symm | exact (if_pos (by omega)).symm, by rw [fm169_8]; first | exact (if_neg (by omega)).symm | exact (if_pos (by omega)).symm, by omega, by omega⟩
                                    · intro h178
                                      refine zw_7 zr_52_44 rfl ?_
                                      refine zw_43 zr_52_45 rfl ?_
                                      refine zw_46l zr_52_46 km167_1_2 rfl rfl rfl ?_
                                      refine zw_push zr_52_49 ?_
                                      refine zw_4 zr_52_50 rfl ?_
                                      refine zw_33p zr_52_52 (by omega) ?_
                                      intro x179 ex179 hx179a hx179b
                                      refine zw_31p (s := g1) zr_52_53 ex179 (by omega) (by omega) ?_
                                      intro x180 ex180 hx180a hx180b
                                      refine zw_47 (c := 1) zr_52_54 rfl ⟨rfl, by decide, rfl⟩ ?_
                                      intro m181 em181
                                      have hIm181 : zInv m181 := by rw [em181]; exact hIm167.bdl (r := 1) (k := 2) (lo := 0) (hi := 1152921504606846975) rfl (by omega) (by decide) (by decide) (by decide) (by decide)
                                      have hFm181 : zFr W_102 m0 m181 := by rw [em181]; exact hFm167.up rfl
                                      have km181_1_0 : m181 1 0 = g0 := by rw [em181, zUp_ne (by omega)]; exact km167_1_0
                                      have km181_1_1 : m181 1 1 = g1 := by rw [em181, zUp_ne (by omega)]; exact km167_1_1
                                      have km181_1_2 : m181 1 2 = x180 := by rw [em181]; exact zUp_eq _ _ _ _
                                      have fm181_5 : m181 5 = zPt F5 ((g1).toNat) a0 := by rw [em181, zUp_fn (by decide)]; exact fm167_5
                                      have fm181_6 : m181 6 = zPt F6 ((g1).toNat) a1 := by rw [em181, zUp_fn (by decide)]; exact fm167_6
                                      have fm181_7 : m181 7 = zPt F7 ((g1).toNat) a2 := by rw [em181, zUp_fn (by decide)]; exact fm167_7
                                      have fm181_8 : m181 8 = zPt F8 ((g1).toNat) a3 := by rw [em181, zUp_fn (by decide)]; exact fm167_8
                                      clear em181
                                      refine zw_7 zr_52_57 rfl ?_
                                      refine zw_43 zr_52_58 rfl ?_
                                      refine zw_46i zr_52_59 km181_1_1 rfl rfl rfl ?_
                                      refine zw_push zr_52_62 ?_
                                      refine zw_16 zr_52_63 (by omega) ?_
                                      refine zw_47 (c := 1) zr_52_64 rfl ⟨rfl, by decide, rfl⟩ ?_
                                      intro m182 em182
                                      have hIm182 : zInv m182 := by rw [em182]; exact hIm181.bd (r := 1) (k := 1) (lo := 0) (hi := 60) rfl (by omega) (by decide) (by decide) (by decide)
                                      have hFm182 : zFr W_102 m0 m182 := by rw [em182]; exact hFm181.up rfl
                                      have km182_1_0 : m182 1 0 = g0 := by rw [em182, zUp_ne (by omega)]; exact km181_1_0
                                      have km182_1_2 : m182 1 2 = x180 := by rw [em182, zUp_ne (by omega)]; exact km181_1_2
                                      have km182_1_1 : m182 1 1 = (g1 + 1) := by rw [em182]; exact zUp_eq _ _ _ _
                                      have fm182_5 : m182 5 = zPt F5 ((g1).toNat) a0 := by rw [em182, zUp_fn (by decide)]; exact fm181_5
                                      have fm182_6 : m182 6 = zPt F6 ((g1).toNat) a1 := by rw [em182, zUp_fn (by decide)]; exact fm181_6
                                      have fm182_7 : m182 7 = zPt F7 ((g1).toNat) a2 := by rw [em182, zUp_fn (by decide)]; exact fm181_7
                                      have fm182_8 : m182 8 = zPt F8 ((g1).toNat) a3 := by rw [em182, zUp_fn (by decide)]; exact fm181_8
                                      clear em182
                                      refine zw_4 zr_52_67 rfl ?_
                                      refine zw_R zr_52_69 (by decide) zm_52 (v := (0, g1)) rfl ?_
                                      rw [← hQ1]
                                      show zW E (d) 102 72 [(2, 0), (0, a0), (0, a1), (0, a2), (0, a3), (0, a4)] [(0, g1)] m182 Q
                                      refine zw_R zr_102_72 (by decide) zm_102 (v := (0, g1)) rfl ?_
                                      rw [← hQ]; exact ⟨_, rfl, by omega, by omega, hIm182, hFm182, by omega, by omega, by rw [fm182_5]; first | exact (if_neg (by omega)).symm | exact (if_pos (by omega)).symm, by rw [fm182_6]; first | exact (if_neg (by omega)).symm | exact (if_pos (by omega)).symm, by rw [fm182_7]; first | exact (if_neg (by omega)).symm | exact (if_pos (by omega)).symm, by rw [fm182_8]; first | exact (if_neg (by omega)).symm | exact (if_pos (by omega)).symm, by omega, by omega⟩
                                  · intro h191
                                    refine zw_push zr_102_55 ?_
                                    refine zw_R zr_102_57 (by decide) zm_102 (v := (0, (-4))) rfl ?_
                                    rw [← hQ]; exact ⟨_, rfl, by omega, by omega, hI0, hF0, by omega, by omega, by rw [hG5]; first | exact (if_neg (by omega)).symm | exact (if_pos (by omega)).symm, by rw [hG6]; first | exact (if_neg (by omega)).symm | exact (if_pos (by omega)).symm, by rw [hG7]; first | exact (if_neg (by omega)).symm | exact (if_pos (by omega)).symm, by rw [hG8]; first | exact (if_neg (by omega)).symm | exact (if_pos (by omega)).symm, by omega, by omega⟩
                                · intro h200
                                  refine zw_push zr_102_40 ?_
                                  refine zw_R zr_102_42 (by decide) zm_102 (v := (0, (-2))) rfl ?_
                                  rw [← hQ]; exact ⟨_, rfl, by omega, by omega, hI0, hF0, by omega, by omega, by rw [hG5]; first | exact (if_neg (by omega)).symm | exact (if_pos (by omega)).symm, by rw [hG6]; first | exact (if_neg (by omega)).symm | exact (if_pos (by omega)).symm, by rw [hG7]; first | exact (if_neg (by omega)).symm | exact (if_pos (by omega)).symm, by rw [hG8]; first | exact (if_neg (by omega)).symm | exact (if_pos (by omega)).symm, by omega, by omega⟩
