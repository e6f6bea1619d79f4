abbrev W_99 : List (Nat × Nat) := [(1, 0), (2, 1000)]
set_option maxHeartbeats 8000000 in
theorem th_99 {E : zE} {d : Nat} {m0 : zM} {a0 : Int} {g0 : Int} {F2 : Nat → Int} (hd : 1 ≤ d) (hI0 : zInv m0) (hg0 : m0 1 0 = g0) (hG2 : m0 2 = F2) (ha0 : (-2147483648) ≤ a0 ∧ a0 ≤ 2147483647) : zC E d 99 [(2, 0), (0, a0)] m0 (fun v m' => ∃ r : Int, v = (0, r) ∧ (-4) ≤ r ∧ r ≤ 9 ∧ zInv m' ∧ zFr W_99 m0 m' ∧ ((r = -2 ∧ (a0 < -60 ∨ 99 < a0)) ∨ (-60 ≤ a0 ∧ a0 ≤ 99 ∧ ((g0 = 10 ∧ r = -4) ∨ (0 ≤ g0 ∧ g0 < 10 ∧ r = g0)))) ∧ ((0 ≤ r ∧ m' 1 0 = g0 + 1) ∨ (r < 0 ∧ m' 1 0 = g0)) ∧ (m' 2 = if 0 ≤ r then zPt F2 g0.toNat a0 else F2)) := by
  have hF0 : zFr W_99 m0 m0 := zFr.rfl
  have bg0 := ib_1_0 hI0
  rw [hg0] at bg0
  generalize hQ : (fun (v : zV) (m' : zM) => ∃ r : Int, v = (0, r) ∧ (-4) ≤ r ∧ r ≤ 9 ∧ zInv m' ∧ zFr W_99 m0 m' ∧ ((r = -2 ∧ (a0 < -60 ∨ 99 < a0)) ∨ (-60 ≤ a0 ∧ a0 ≤ 99 ∧ ((g0 = 10 ∧ r = -4) ∨ (0 ≤ g0 ∧ g0 < 10 ∧ r = g0)))) ∧ ((0 ≤ r ∧ m' 1 0 = g0 + 1) ∨ (r < 0 ∧ m' 1 0 = g0)) ∧ (m' 2 = if 0 ≤ r then zPt F2 g0.toNat a0 else F2)) = Q
  show zW E d 99 0 [(2, 0), (0, a0)] [] m0 Q
  refine zw_3 zr_99_0 rfl ?_
  refine zw_push zr_99_1 ?_
  refine zw_41_0 zr_99_3 ?_ ?_
  · intro h1
    refine zw_push zr_99_12 ?_
    refine zw_R zr_99_14 (by decide) zm_99 (v := (0, (-2))) rfl ?_
    rw [← hQ]; exact ⟨_, rfl, by omega, by omega, hI0, hF0, by omega, by omega, by rw [hG2]; first | exact (if_neg (by omega)).symm | exact (if_pos (by omega)).symm⟩
  · intro h5
    refine zw_3 zr_99_6 rfl ?_
    refine zw_push zr_99_7 ?_
    refine zw_41_0 zr_99_9 ?_ ?_
    · intro h6
      refine zw_7 zr_99_15 rfl ?_
      refine zw_46r (s := 1) zr_99_16 rfl rfl rfl rfl ?_
      refine zw_46i zr_99_19 hg0 rfl rfl rfl ?_
      refine zw_push zr_99_22 ?_
      refine zw_41_0 zr_99_24 ?_ ?_
      · intro h7
        refine zw_7 zr_99_30 rfl ?_
        refine zw_46r (s := 1) zr_99_31 rfl rfl rfl rfl ?_
        refine zw_46r (s := 2) zr_99_34 rfl rfl rfl rfl ?_
        refine zw_7 zr_99_37 rfl ?_
        refine zw_46r (s := 1) zr_99_38 rfl rfl rfl rfl ?_
        refine zw_46i zr_99_41 hg0 rfl rfl rfl ?_
        refine zw_3 zr_99_44 rfl ?_
        refine zw_49 (c := 2) (len := 10) zr_99_45 rfl rfl (by omega) (by omega) ?_
        intro m8 em8
        have hIm8 : zInv m8 := by rw [em8]; exact iu_2 hI0 (by omega)
        have hFm8 : zFr W_99 m0 m8 := by rw [em8]; exact hF0.any rfl
        have km8_1_0 : m8 1 0 = g0 := by rw [em8, zUp_ne (by omega)]; exact hg0
        have fm8_2 : m8 2 = zPt F2 ((g0).toNat) a0 := by rw [em8]; exact (zUp_ff (m := m0)).trans (congrArg (fun q => zPt q ((g0).toNat) a0) hG2)
        clear em8
        refine zw_7 zr_99_46 rfl ?_
        refine zw_46r (s := 1) zr_99_47 rfl rfl rfl rfl ?_
        refine zw_43 zr_99_50 rfl ?_
        refine zw_46i zr_99_51 km8_1_0 rfl rfl rfl ?_
        refine zw_44 zr_99_54 ⟨rfl, rfl⟩ ?_
        refine zw_push zr_99_55 ?_
        refine zw_16 zr_99_56 (by omega) ?_
        refine zw_47 (c := 1) zr_99_57 rfl ⟨rfl, by decide, rfl⟩ ?_
        intro m9 em9
        have hIm9 : zInv m9 := by rw [em9]; exact hIm8.bd (r := 1) (k := 0) (lo := 0) (hi := 10) rfl (by omega) (by decide) (by decide) (by decide)
        have hFm9 : zFr W_99 m0 m9 := by rw [em9]; exact hFm8.up rfl
        have km9_1_0 : m9 1 0 = (g0 + 1) := by rw [em9]; exact zUp_eq _ _ _ _
        have fm9_2 : m9 2 = zPt F2 ((g0).toNat) a0 := by rw [em9, zUp_fn (by decide)]; exact fm8_2
        clear em9
        refine zw_R zr_99_60 (by decide) zm_99 (v := (0, g0)) rfl ?_
        rw [← hQ]; exact ⟨_, rfl, by omega, by omega, hIm9, hFm9, by omega, by omega, by rw [fm9_2]; first | exact (if_neg (by omega)).symm | exact (if_pos (by omega)).symm⟩
      · intro h13
        refine zw_push zr_99_27 ?_
        refine zw_R zr_99_29 (by decide) zm_99 (v := (0, (-4))) rfl ?_
        rw [← hQ]; exact ⟨_, rfl, by omega, by omega, hI0, hF0, by omega, by omega, by rw [hG2]; first | exact (if_neg (by omega)).symm | exact (if_pos (by omega)).symm⟩
    · intro h17
      refine zw_push zr_99_12 ?_
      refine zw_R zr_99_14 (by decide) zm_99 (v := (0, (-2))) rfl ?_
      rw [← hQ]; exact ⟨_, rfl, by omega, by omega, hI0, hF0, by omega, by omega, by rw [hG2]; first | exact (if_neg (by omega)).symm | exact (if_pos (by omega)).symm⟩

abbrev W_145 : List (Nat × Nat) := [(70, 1000)]
set_option maxHeartbeats 8000000 in
theorem th_145 {E : zE} {d : Nat} {m0 : zM} {a0 : Int} {g0 : Int} {F70 : Nat → Int} (hd : 2 ≤ d) (hI0 : zInv m0) (hg0 : m0 70 822 = g0) (hG70 : m0 70 = F70) (ha0 : (-2147483648) ≤ a0 ∧ a0 ≤ 2147483647) : zC E d 145 [(2, 69), (0, a0)] m0 (fun v m' => ∃ r : Int, v = (0, r) ∧ (-4) ≤ r ∧ r ≤ 9 ∧ zInv m' ∧ zFr W_145 m0 m' ∧ ((r = -2 ∧ (a0 < -60 ∨ 99 < a0)) ∨ (-60 ≤ a0 ∧ a0 ≤ 99 ∧ ((g0 = 10 ∧ r = -4) ∨ (0 ≤ g0 ∧ g0 < 10 ∧ r = g0)))) ∧ (m' 70 = if 0 ≤ r then zPt (zPt F70 (0 + g0).toNat a0) 822 (g0 + 1) else F70)) := by
  have hF0 : zFr W_145 m0 m0 := zFr.rfl
  have bg0 : 0 ≤ m0 70 822 ∧ m0 70 822 ≤ 10 := ib_70_players hI0 (by omega)
  rw [hg0] at bg0
  generalize hQ : (fun (v : zV) (m' : zM) => ∃ r : Int, v = (0, r) ∧ (-4) ≤ r ∧ r ≤ 9 ∧ zInv m' ∧ zFr W_145 m0 m' ∧ ((r = -2 ∧ (a0 < -60 ∨ 99 < a0)) ∨ (-60 ≤ a0 ∧ a0 ≤ 99 ∧ ((g0 = 10 ∧ r = -4) ∨ (0 ≤ g0 ∧ g0 < 10 ∧ r = g0)))) ∧ (m' 70 = if 0 ≤ r then zPt (zPt F70 (0 + g0).toNat a0) 822 (g0 + 1) else F70)) = Q
  show zW E d 145 0 [(2, 69), (0, a0)] [] m0 Q
  refine zw_3 zr_145_0 rfl ?_
  refine zw_36 zr_145_1 ?_
  refine zw_push zr_145_2 ?_
  refine zw_push zr_145_5 ?_
  refine zw_C zr_145_8 (Or.inr rfl) zm_140 rfl rfl ⟨Nat.le_of_ble_eq_true rfl, Nat.le_of_ble_eq_true rfl, Nat.le_of_ble_eq_true rfl, rfl, by decide⟩ (by omega) (P := (fun v m' => zW E (d) 145 11 [(2, 69), (0, a0)] (if v.1 = 9 then [] else v :: []) m' Q)) ?_ (fun _ _ h => h)
  generalize hQ1 : (fun v m' => zW E (d) 145 11 [(2, 69), (0, a0)] (if v.1 = 9 then [] else v :: []) m' Q) = Q1
  show zW E (d - 1) 140 0 [(1, a0), (9, 0), (1, (-60)), (9, 0), (1, 99), (9, 0)] [] m0 Q1
  refine zw_5 zr_140_0 rfl ?_
  refine zw_5 zr_140_1 rfl ?_
  refine zw_39_0 zr_140_2 zr_140_3 ?_ ?_
  · intro h1
    refine zw_push zr_140_17 ?_
    refine zw_R zr_140_18 (by decide) zm_140 (v := (0, 0)) (zRetB (by omega)) ?_
    rw [← hQ1]
    show zW E (d) 145 11 [(2, 69), (0, a0)] [(0, 0)] m0 Q
    refine zw_40_4 zr_145_11 ?_ ?_
    · intro h2; omega
    · intro h3
      refine zw_push zr_145_14 ?_
      refine zw_R zr_145_16 (by decide) zm_145 (v := (0, (-2))) rfl ?_
      rw [← hQ]; exact ⟨_, rfl, by omega, by omega, hI0, hF0, by omega, by rw [hG70]; first | exact (if_neg (by omega)).symm | exact (if_pos (by omega)).symm⟩
  · intro h6
    refine zw_5 zr_140_6 rfl ?_
    refine zw_6 zr_140_7 rfl ?_
    refine zw_39_2 zr_140_9 zr_140_10 ?_ ?_
    · intro h7
      refine zw_push zr_140_17 ?_
      refine zw_R zr_140_18 (by decide) zm_140 (v := (0, 0)) (zRetB (by omega)) ?_
      rw [← hQ1]
      show zW E (d) 145 11 [(2, 69), (0, a0)] [(0, 0)] m0 Q
      refine zw_40_4 zr_145_11 ?_ ?_
      · intro h8; omega
      · intro h9
        refine zw_push zr_145_14 ?_
        refine zw_R zr_145_16 (by decide) zm_145 (v := (0, (-2))) rfl ?_
        rw [← hQ]; exact ⟨_, rfl, by omega, by omega, hI0, hF0, by omega, by rw [hG70]; first | exact (if_neg (by omega)).symm | exact (if_pos (by omega)).symm⟩
    · intro h12
      refine zw_push zr_140_13 ?_
      refine zw_42 zr_140_14 ?_
      refine zw_R zr_140_18 (by decide) zm_140 (v := (0, 1)) (zRetB (by omega)) ?_
      rw [← hQ1]
      show zW E (d) 145 11 [(2, 69), (0, a0)] [(0, 1)] m0 Q
      refine zw_40_4 zr_145_11 ?_ ?_
      · intro h13
        refine zw_7 zr_145_17 rfl ?_
        refine zw_C zr_145_18 (Or.inl rfl) zm_141 rfl rfl ⟨Nat.le_of_ble_eq_true rfl, Nat.le_of_ble_eq_true rfl, Nat.le_of_ble_eq_true rfl, rfl, by decide⟩ (by omega) (P := (fun v m' => zW E (d) 145 21 [(2, 69), (0, a0)] (if v.1 = 9 then [] else v :: []) m' Q)) ?_ (fun _ _ h => h)
        generalize hQ1 : (fun v m' => zW E (d) 145 21 [(2, 69), (0, a0)] (if v.1 = 9 then [] else v :: []) m' Q) = Q1
        show zW E (d - 1) 141 0 [(2, 69)] [] m0 Q1
        refine zw_7 zr_141_0 rfl ?_
        refine zw_46r (s := 70) zr_141_1 rfl rfl rfl rfl ?_
        refine zw_push zr_141_4 ?_
        refine zw_48k (c := 70) (len := 826) zr_141_7 rfl rfl (by omega) (by omega) (show (822 : Int).toNat = 822 by omega) hg0 ?_
        refine zw_R zr_141_8 (by decide) zm_141 (v := (0, g0)) rfl ?_
        rw [← hQ1]
        show zW E (d) 145 21 [(2, 69), (0, a0)] [(0, g0)] m0 Q
        refine zw_push zr_145_21 ?_
        refine zw_41_4 zr_145_23 ?_ ?_
        · intro h14
          refine zw_7 zr_145_29 rfl ?_
          refine zw_46r (s := 70) zr_145_30 rfl rfl rfl rfl ?_
          refine zw_push zr_145_33 ?_
          refine zw_7 zr_145_34 rfl ?_
          refine zw_C zr_145_35 (Or.inl rfl) zm_141 rfl rfl ⟨Nat.le_of_ble_eq_true rfl, Nat.le_of_ble_eq_true rfl, Nat.le_of_ble_eq_true rfl, rfl, by decide⟩ (by omega) (P := (fun v m' => zW E (d) 145 38 [(2, 69), (0, a0)] (if v.1 = 9 then [(0, 0), (2, 70)] else v :: [(0, 0), (2, 70)]) m' Q)) ?_ (fun _ _ h => h)
          generalize hQ1 : (fun v m' => zW E (d) 145 38 [(2, 69), (0, a0)] (if v.1 = 9 then [(0, 0), (2, 70)] else v :: [(0, 0), (2, 70)]) m' Q) = Q1
          show zW E (d - 1) 141 0 [(2, 69)] [] m0 Q1
          refine zw_7 zr_141_0 rfl ?_
          refine zw_46r (s := 70) zr_141_1 rfl rfl rfl rfl ?_
          refine zw_push zr_141_4 ?_
          refine zw_48k (c := 70) (len := 826) zr_141_7 rfl rfl (by omega) (by omega) (show (822 : Int).toNat = 822 by omega) hg0 ?_
          refine zw_R zr_141_8 (by decide) zm_141 (v := (0, g0)) rfl ?_
          rw [← hQ1]
          show zW E (d) 145 38 [(2, 69), (0, a0)] [(0, g0), (0, 0), (2, 70)] m0 Q
          refine zw_16 zr_145_38 (by omega) ?_
          refine zw_3 zr_145_39 rfl ?_
          refine zw_49 (c := 70) (len := 826) zr_145_40 rfl rfl (by omega) (by omega) ?_
          intro m15 em15
          have hIm15 : zInv m15 := by rw [em15]; exact iu_70_born hI0 (by omega) (by omega)
          have hFm15 : zFr W_145 m0 m15 := by rw [em15]; exact hF0.any rfl
          have km15_70_822 : m15 70 822 = g0 := by rw [em15, zUp_ne (by omega)]; exact hg0
          have fm15_70 : m15 70 = zPt F70 (((0 + g0)).toNat) a0 := by rw [em15]; exact (zUp_ff (m := m0)).trans (congrArg (fun q => zPt q (((0 + g0)).toNat) a0) hG70)
          clear em15
          refine zw_7 zr_145_41 rfl ?_
          refine zw_46r (s := 70) zr_145_42 rfl rfl rfl rfl ?_
          refine zw_push zr_145_45 ?_
          refine zw_45 zr_145_48 ⟨rfl, rfl⟩ ?_
          refine zw_48k (c := 70) (len := 826) zr_145_49 rfl rfl (by omega) (by omega) (show (822 : Int).toNat = 822 by omega) km15_70_822 ?_
          refine zw_push zr_145_50 ?_
          refine zw_16 zr_145_51 (by omega) ?_
          refine zw_49 (c := 70) (len := 826) zr_145_52 rfl rfl (by omega) (by omega) ?_
          intro m16 em16
          have hIm16 : zInv m16 := by rw [em16]; exact iu_70_players hIm15 (by omega) (by omega)
          have hFm16 : zFr W_145 m0 m16 := by rw [em16]; exact hFm15.any rfl
          have km16_70_822 : m16 70 822 = (g0 + 1) := by rw [em16, show (822 : Int).toNat = 822 by omega]; exact zUp_eq _ _ _ _
          have fm16_70 : m16 70 = zPt (zPt F70 (((0 + g0)).toNat) a0) 822 ((g0 + 1)) := by rw [em16]; exact (zUp_ff (m := m15)).trans (congrArg (fun q => zPt q 822 ((g0 + 1))) fm15_70)
          clear em16
          refine zw_7 zr_145_53 rfl ?_
          refine zw_C zr_145_54 (Or.inl rfl) zm_141 rfl rfl ⟨Nat.le_of_ble_eq_true rfl, Nat.le_of_ble_eq_true rfl, Nat.le_of_ble_eq_true rfl, rfl, by decide⟩ (by omega) (P := (fun v m' => zW E (d) 145 57 [(2, 69), (0, a0)] (if v.1 = 9 then [] else v :: []) m' Q)) ?_ (fun _ _ h => h)
          generalize hQ1 : (fun v m' => zW E (d) 145 57 [(2, 69), (0, a0)] (if v.1 = 9 then [] else v :: []) m' Q) = Q1
          show zW E (d - 1) 141 0 [(2, 69)] [] m16 Q1
          refine zw_7 zr_141_0 rfl ?_
          refine zw_46r (s := 70) zr_141_1 rfl rfl rfl rfl ?_
          refine zw_push zr_141_4 ?_
          refine zw_48k (c := 70) (len := 826) zr_141_7 rfl rfl (by omega) (by omega) (show (822 : Int).toNat = 822 by omega) km16_70_822 ?_
          refine zw_R zr_141_8 (by decide) zm_141 (v := (0, (g0 + 1))) rfl ?_
          rw [← hQ1]
          show zW E (d) 145 57 [(2, 69), (0, a0)] [(0, (g0 + 1))] m16 Q
          refine zw_push zr_145_57 ?_
          refine zw_17 zr_145_58 (by omega) ?_
          refine zw_R zr_145_59 (by decide) zm_145 (v := (0, ((g0 + 1) - 1))) rfl ?_
          rw [← hQ]; exact ⟨_, rfl, by omega, by omega, hIm16, hFm16, by omega, by rw [fm16_70]; first | exact (if_neg (by omega)).symm | exact (if_pos (by omega)).symm⟩
        · intro h19
          refine zw_push zr_145_26 ?_
          refine zw_R zr_145_28 (by decide) zm_145 (v := (0, (-4))) rfl ?_
          rw [← hQ]; exact ⟨_, rfl, by omega, by omega, hI0, hF0, by omega, by rw [hG70]; first | exact (if_neg (by omega)).symm | exact (if_pos (by omega)).symm⟩
      · intro h22; omega

abbrev W_102 : List (Nat × Nat) := [(1, 1), (1, 2), (5, 1000), (6, 1000), (7, 1000), (8, 1000)]
set_option maxHeartbeats 8000000 in
theorem th_102 {E : zE} {d : Nat} {m0 : zM} {a0 : Int} {a1 : Int} {a2 : Int} {a3 : Int} {a4 : Int} {g0 : Int} {g1 : Int} {g2 : Int} {F5 : Nat → Int} {F6 : Nat → Int} {F7 : Nat → Int} {F8 : Nat → Int} (hd : 3 ≤ d) (hI0 : zInv m0) (hg0 : m0 1 0 = g0) (hg1 : m0 1 1 = g1) (hg2 : m0 1 2 = g2) (hG5 : m0 5 = F5) (hG6 : m0 6 = F6) (hG7 : m0 7 = F7) (hG8 : m0 8 = F8) (ha0 : (-2147483648) ≤ a0 ∧ a0 ≤ 2147483647) (ha1 : (-2147483648) ≤ a1 ∧ a1 ≤ 2147483647) (ha2 : (-2147483648) ≤ a2 ∧ a2 ≤ 2147483647) (ha3 : (-2147483648) ≤ a3 ∧ a3 ≤ 2147483647) (ha4 : 0 ≤ a4 ∧ a4 ≤ 1) : zC E d 102 [(2, 0), (0, a0), (0, a1), (0, a2), (0, a3), (0, a4)] m0 (fun v m' => ∃ r : Int, v = (0, r) ∧ (-4) ≤ r ∧ r ≤ 59 ∧ zInv m' ∧ zFr W_102 m0 m' ∧ ((r = -2 ∧ (a0 < 0 ∨ 99 < a0 ∨ a1 < 0 ∨ g0 ≤ a1 ∨ a2 < 0 ∨ g0 ≤ a2 ∨ a1 = a2 ∨ a3 < 0 ∨ 2 < a3 ∨ a0 < zly F5 g1)) ∨ ((0 ≤ a0 ∧ a0 ≤ 99 ∧ 0 ≤ a1 ∧ a1 < g0 ∧ 0 ≤ a2 ∧ a2 < g0 ∧ a1 ≠ a2 ∧ 0 ≤ a3 ∧ a3 ≤ 2 ∧ zly F5 g1 ≤ a0) ∧ ((r = -4 ∧ g1 = 60) ∨ (0 ≤ g1 ∧ g1 < 60 ∧ r = g1)))) ∧ ((0 ≤ r ∧ m' 1 1 = g1 + 1) ∨ (r < 0 ∧ m' 1 1 = g1)) ∧ (m' 5 = if 0 ≤ r then zPt F5 g1.toNat a0 else F5) ∧ (m' 6 = if 0 ≤ r then zPt F6 g1.toNat a1 else F6) ∧ (m' 7 = if 0 ≤ r then zPt F7 g1.toNat a2 else F7) ∧ (m' 8 = if 0 ≤ r then zPt F8 g1.toNat a3 else F8) ∧ (0 ≤ a4 ∧ a4 ≤ 1) ∧ ((0 ≤ r ∧ a4 = 1 ∧ m' 1 2 = zso g2 g1.toNat) ∨ ((r < 0 ∨ a4 = 0) ∧ m' 1 2 = g2))) := by
  have hF0 : zFr W_102 m0 m0 := zFr.rfl
  have bg0 := ib_1_0 hI0
  rw [hg0] at bg0
  have bg1 := ib_1_1 hI0
  rw [hg1] at bg1
  have bg2 := ib_1_2 hI0
  rw [hg2] at bg2
  generalize hQ : (fun (v : zV) (m' : zM) => ∃ r : Int, v = (0, r) ∧ (-4) ≤ r ∧ r ≤ 59 ∧ zInv m' ∧ zFr W_102 m0 m' ∧ ((r = -2 ∧ (a0 < 0 ∨ 99 < a0 ∨ a1 < 0 ∨ g0 ≤ a1 ∨ a2 < 0 ∨ g0 ≤ a2 ∨ a1 = a2 ∨ a3 < 0 ∨ 2 < a3 ∨ a0 < zly F5 g1)) ∨ ((0 ≤ a0 ∧ a0 ≤ 99 ∧ 0 ≤ a1 ∧ a1 < g0 ∧ 0 ≤ a2 ∧ a2 < g0 ∧ a1 ≠ a2 ∧ 0 ≤ a3 ∧ a3 ≤ 2 ∧ zly F5 g1 ≤ a0) ∧ ((r = -4 ∧ g1 = 60) ∨ (0 ≤ g1 ∧ g1 < 60 ∧ r = g1)))) ∧ ((0 ≤ r ∧ m' 1 1 = g1 + 1) ∨ (r < 0 ∧ m' 1 1 = g1)) ∧ (m' 5 = if 0 ≤ r then zPt F5 g1.toNat a0 else F5) ∧ (m' 6 = if 0 ≤ r then zPt F6 g1.toNat a1 else F6) ∧ (m' 7 = if 0 ≤ r then zPt F7 g1.toNat a2 else F7) ∧ (m' 8 = if 0 ≤ r then zPt F8 g1.toNat a3 else F8) ∧ (0 ≤ a4 ∧ a4 ≤ 1) ∧ ((0 ≤ r ∧ a4 = 1 ∧ m' 1 2 = zso g2 g1.toNat) ∨ ((r < 0 ∨ a4 = 0) ∧ m' 1 2 = g2))) = Q
  show zW E d 102 0 [(2, 0), (0, a0), (0, a1), (0, a2), (0, a3), (0, a4)] [] m0 Q
  have z1 := zly_c F5 g1
  refine zw_3 zr_102_0 rfl ?_
  refine zw_C zr_102_1 (Or.inr rfl) zm_101 rfl rfl ⟨Nat.le_of_ble_eq_true rfl, Nat.le_of_ble_eq_true rfl, Nat.le_of_ble_eq_true rfl, rfl, by decide⟩ (by omega) (P := (fun v m' => zW E (d) 102 4 [(2, 0), (0, a0), (0, a1), (0, a2), (0, a3), (0, a4)] (if v.1 = 9 then [] else v :: []) m' Q)) ?_ (fun _ _ h => h)
  generalize hQ1 : (fun v m' => zW E (d) 102 4 [(2, 0), (0, a0), (0, a1), (0, a2), (0, a3), (0, a4)] (if v.1 = 9 then [] else v :: []) m' Q) = Q1
  show zW E (d - 1) 101 0 [(0, a0)] [] m0 Q1
  refine zw_3 zr_101_0 rfl ?_
  refine zw_push zr_101_1 ?_
  refine zw_push zr_101_2 ?_
  refine zw_C zr_101_4 (Or.inr rfl) zm_100 rfl rfl ⟨Nat.le_of_ble_eq_true rfl, Nat.le_of_ble_eq_true rfl, Nat.le_of_ble_eq_true rfl, rfl, by decide⟩ (by omega) (P := (fun v m' => zW E (d - 1) 101 7 [(0, a0)] (if v.1 = 9 then [] else v :: []) m' Q1)) ?_ (fun _ _ h => h)
  generalize hQ2 : (fun v m' => zW E (d - 1) 101 7 [(0, a0)] (if v.1 = 9 then [] else v :: []) m' Q1) = Q2
  show zW E (d - 1 - 1) 100 0 [(0, a0), (0, 0), (0, 99)] [] m0 Q2
  refine zw_3 zr_100_0 rfl ?_
  refine zw_3 zr_100_1 rfl ?_
  refine zw_41_0 zr_100_2 ?_ ?_
  · intro h2
    refine zw_push zr_100_14 ?_
    refine zw_R zr_100_15 (by decide) zm_100 (v := (0, 0)) (zRetB (by omega)) ?_
    rw [← hQ2]
    show zW E (d - 1) 101 7 [(0, a0)] [(0, 0)] m0 Q1
    refine zw_R zr_101_7 (by decide) zm_101 (v := (0, 0)) (zRetB (by omega)) ?_
    rw [← hQ1]
    show zW E (d) 102 4 [(2, 0), (0, a0), (0, a1), (0, a2), (0, a3), (0, a4)] [(0, 0)] m0 Q
    refine zw_40_1 zr_102_4 ?_ ?_
    · intro h3
      refine zw_push zr_102_40 ?_
      refine zw_R zr_102_42 (by decide) zm_102 (v := (0, (-2))) rfl ?_
      rw [← hQ]; exact ⟨_, rfl, by omega, by omega, hI0, hF0, by omega, by omega, by rw [hG5]; first | exact (if_neg (by omega)).symm | exact (if_pos (by omega)).symm, by rw [hG6]; first | exact (if_neg (by omega)).symm | exact (if_pos (by omega)).symm, by rw [hG7]; first | exact (if_neg (by omega)).symm | exact (if_pos (by omega)).symm, by rw [hG8]; first | exact (if_neg (by omega)).symm | exact (if_pos (by omega)).symm, by omega, by omega⟩
    · intro h12; omega
  · intro h13
    refine zw_3 zr_100_5 rfl ?_
    refine zw_3 zr_100_6 rfl ?_
    refine zw_41_2 zr_100_7 ?_ ?_
    · intro h14
      refine zw_push zr_100_14 ?_
      refine zw_R zr_100_15 (by decide) zm_100 (v := (0, 0)) (zRetB (by omega)) ?_
      rw [← hQ2]
      show zW E (d - 1) 101 7 [(0, a0)] [(0, 0)] m0 Q1
      refine zw_R zr_101_7 (by decide) zm_101 (v := (0, 0)) (zRetB (by omega)) ?_
      rw [← hQ1]
      show zW E (d) 102 4 [(2, 0), (0, a0), (0, a1), (0, a2), (0, a3), (0, a4)] [(0, 0)] m0 Q
      refine zw_40_1 zr_102_4 ?_ ?_
      · intro h15
        refine zw_push zr_102_40 ?_
        refine zw_R zr_102_42 (by decide) zm_102 (v := (0, (-2))) rfl ?_
        rw [← hQ]; exact ⟨_, rfl, by omega, by omega, hI0, hF0, by omega, by omega, by rw [hG5]; first | exact (if_neg (by omega)).symm | exact (if_pos (by omega)).symm, by rw [hG6]; first | exact (if_neg (by omega)).symm | exact (if_pos (by omega)).symm, by rw [hG7]; first | exact (if_neg (by omega)).symm | exact (if_pos (by omega)).symm, by rw [hG8]; first | exact (if_neg (by omega)).symm | exact (if_pos (by omega)).symm, by omega, by omega⟩
      · intro h24; omega
    · intro h25
      refine zw_push zr_100_10 ?_
      refine zw_42 zr_100_11 ?_
      refine zw_R zr_100_15 (by decide) zm_100 (v := (0, 1)) (zRetB (by omega)) ?_
      rw [← hQ2]
      show zW E (d - 1) 101 7 [(0, a0)] [(0, 1)] m0 Q1
      refine zw_R zr_101_7 (by decide) zm_101 (v := (0, 1)) (zRetB (by omega)) ?_
      rw [← hQ1]
      show zW E (d) 102 4 [(2, 0), (0, a0), (0, a1), (0, a2), (0, a3), (0, a4)] [(0, 1)] m0 Q
      refine zw_40_1 zr_102_4 ?_ ?_
      · intro h26; omega
      · intro h27
        refine zw_7 zr_102_7 rfl ?_
        refine zw_46r (s := 1) zr_102_8 rfl rfl rfl rfl ?_
        refine zw_3 zr_102_11 rfl ?_
        refine zw_3 zr_102_12 rfl ?_
        refine zw_C zr_102_13 (Or.inl rfl) zm_50 rfl rfl ⟨Nat.le_of_ble_eq_true rfl, Nat.le_of_ble_eq_true rfl, Nat.le_of_ble_eq_true rfl, rfl, by decide⟩ (by omega) (P := (fun v m' => zW E (d) 102 16 [(2, 0), (0, a0), (0, a1), (0, a2), (0, a3), (0, a4)] (if v.1 = 9 then [] else v :: []) m' Q)) ?_ (fun _ _ h => h)
        generalize hQ1 : (fun v m' => zW E (d) 102 16 [(2, 0), (0, a0), (0, a1), (0, a2), (0, a3), (0, a4)] (if v.1 = 9 then [] else v :: []) m' Q) = Q1
        show zW E (d - 1) 50 0 [(2, 1), (0, a1), (0, a2)] [] m0 Q1
        refine zw_7 zr_50_0 rfl ?_
        refine zw_3 zr_50_1 rfl ?_
        refine zw_C zr_50_2 (Or.inl rfl) zm_49 rfl rfl ⟨Nat.le_of_ble_eq_true rfl, Nat.le_of_ble_eq_true rfl, Nat.le_of_ble_eq_true rfl, rfl, by decide⟩ (by omega) (P := (fun v m' => zW E (d - 1) 50 5 [(2, 1), (0, a1), (0, a2)] (if v.1 = 9 then [] else v :: []) m' Q1)) ?_ (fun _ _ h => h)
        generalize hQ2 : (fun v m' => zW E (d - 1) 50 5 [(2, 1), (0, a1), (0, a2)] (if v.1 = 9 then [] else v :: []) m' Q1) = Q2
        show zW E (d - 1 - 1) 49 0 [(2, 1), (0, a1)] [] m0 Q2
        refine zw_3 zr_49_0 rfl ?_
        refine zw_40_0 zr_49_1 ?_ ?_
        · intro h28
          refine zw_push zr_49_16 ?_
          refine zw_R zr_49_17 (by decide) zm_49 (v := (0, 0)) (zRetB (by omega)) ?_
          rw [← hQ2]
          show zW E (d - 1) 50 5 [(2, 1), (0, a1), (0, a2)] [(0, 0)] m0 Q1
          refine zw_40_1 zr_50_5 ?_ ?_
          · intro h29
            refine zw_push zr_50_25 ?_
            refine zw_R zr_50_26 (by decide) zm_50 (v := (0, 0)) (zRetB (by omega)) ?_
            rw [← hQ1]
            show zW E (d) 102 16 [(2, 0), (0, a0), (0, a1), (0, a2), (0, a3), (0, a4)] [(0, 0)] m0 Q
            refine zw_40_1 zr_102_16 ?_ ?_
            · intro h30
              refine zw_push zr_102_40 ?_
              refine zw_R zr_102_42 (by decide) zm_102 (v := (0, (-2))) rfl ?_
              rw [← hQ]; exact ⟨_, rfl, by omega, by omega, hI0, hF0, by omega, by omega, by rw [hG5]; first | exact (if_neg (by omega)).symm | exact (if_pos (by omega)).symm, by rw [hG6]; first | exact (if_neg (by omega)).symm | exact (if_pos (by omega)).symm, by rw [hG7]; first | exact (if_neg (by omega)).symm | exact (if_pos (by omega)).symm, by rw [hG8]; first | exact (if_neg (by omega)).symm | exact (if_pos (by omega)).symm, by omega, by omega⟩
            · intro h39; omega
          · intro h40; omega
        · intro h41
          refine zw_3 zr_49_4 rfl ?_
          refine zw_7 zr_49_5 rfl ?_
          refine zw_46i zr_49_6 hg0 rfl rfl rfl ?_
          refine zw_41_3 zr_49_9 ?_ ?_
          · intro h42
            refine zw_push zr_49_16 ?_
            refine zw_R zr_49_17 (by decide) zm_49 (v := (0, 0)) (zRetB (by omega)) ?_
            rw [← hQ2]
            show zW E (d - 1) 50 5 [(2, 1), (0, a1), (0, a2)] [(0, 0)] m0 Q1
            refine zw_40_1 zr_50_5 ?_ ?_
            · intro h43
              refine zw_push zr_50_25 ?_
              refine zw_R zr_50_26 (by decide) zm_50 (v := (0, 0)) (zRetB (by omega)) ?_
              rw [← hQ1]
              show zW E (d) 102 16 [(2, 0), (0, a0), (0, a1), (0, a2), (0, a3), (0, a4)] [(0, 0)] m0 Q
              refine zw_40_1 zr_102_16 ?_ ?_
              · intro h44
                refine zw_push zr_102_40 ?_
                refine zw_R zr_102_42 (by decide) zm_102 (v := (0, (-2))) rfl ?_
                rw [← hQ]; exact ⟨_, rfl, by omega, by omega, hI0, hF0, by omega, by omega, by rw [hG5]; first | exact (if_neg (by omega)).symm | exact (if_pos (by omega)).symm, by rw [hG6]; first | exact (if_neg (by omega)).symm | exact (if_pos (by omega)).symm, by rw [hG7]; first | exact (if_neg (by omega)).symm | exact (if_pos (by omega)).symm, by rw [hG8]; first | exact (if_neg (by omega)).symm | exact (if_pos (by omega)).symm, by omega, by omega⟩
              · intro h53; omega
            · intro h54; omega
          · intro h55
            refine zw_push zr_49_12 ?_
            refine zw_42 zr_49_13 ?_
            refine zw_R zr_49_17 (by decide) zm_49 (v := (0, 1)) (zRetB (by omega)) ?_
            rw [← hQ2]
            show zW E (d - 1) 50 5 [(2, 1), (0, a1), (0, a2)] [(0, 1)] m0 Q1
            refine zw_40_1 zr_50_5 ?_ ?_
            · intro h56; omega
            · intro h57
              refine zw_7 zr_50_8 rfl ?_
              refine zw_3 zr_50_9 rfl ?_
              refine zw_C zr_50_10 (Or.inl rfl) zm_49 rfl rfl ⟨Nat.le_of_ble_eq_true rfl, Nat.le_of_ble_eq_true rfl, Nat.le_of_ble_eq_true rfl, rfl, by decide⟩ (by omega) (P := (fun v m' => zW E (d - 1) 50 13 [(2, 1), (0, a1), (0, a2)] (if v.1 = 9 then [] else v :: []) m' Q1)) ?_ (fun _ _ h => h)
              generalize hQ2 : (fun v m' => zW E (d - 1) 50 13 [(2, 1), (0, a1), (0, a2)] (if v.1 = 9 then [] else v :: []) m' Q1) = Q2
              show zW E (d - 1 - 1) 49 0 [(2, 1), (0, a2)] [] m0 Q2
              refine zw_3 zr_49_0 rfl ?_
              refine zw_40_0 zr_49_1 ?_ ?_
              · intro h58
                refine zw_push zr_49_16 ?_
                refine zw_R zr_49_17 (by decide) zm_49 (v := (0, 0)) (zRetB (by omega)) ?_
                rw [← hQ2]
                show zW E (d - 1) 50 13 [(2, 1), (0, a1), (0, a2)] [(0, 0)] m0 Q1
                refine zw_40_1 zr_50_13 ?_ ?_
                · intro h59
                  refine zw_push zr_50_25 ?_
                  refine zw_R zr_50_26 (by decide) zm_50 (v := (0, 0)) (zRetB (by omega)) ?_
                  rw [← hQ1]
                  show zW E (d) 102 16 [(2, 0), (0, a0), (0, a1), (0, a2), (0, a3), (0, a4)] [(0, 0)] m0 Q
                  refine zw_40_1 zr_102_16 ?_ ?_
                  · intro h60
                    refine zw_push zr_102_40 ?_
                    refine zw_R zr_102_42 (by decide) zm_102 (v := (0, (-2))) rfl ?_
                    rw [← hQ]; exact ⟨_, rfl, by omega, by omega, hI0, hF0, by omega, by omega, by rw [hG5]; first | exact (if_neg (by omega)).symm | exact (if_pos (by omega)).symm, by rw [hG6]; first | exact (if_neg (by omega)).symm | exact (if_pos (by omega)).symm, by rw [hG7]; first | exact (if_neg (by omega)).symm | exact (if_pos (by omega)).symm, by rw [hG8]; first | exact (if_neg (by omega)).symm | exact (if_pos (by omega)).symm, by omega, by omega⟩
                  · intro h69; omega
                · intro h70; omega
              · intro h71
                refine zw_3 zr_49_4 rfl ?_
                refine zw_7 zr_49_5 rfl ?_
                refine zw_46i zr_49_6 hg0 rfl rfl rfl ?_
                refine zw_41_3 zr_49_9 ?_ ?_
                · intro h72
                  refine zw_push zr_49_16 ?_
                  refine zw_R zr_49_17 (by decide) zm_49 (v := (0, 0)) (zRetB (by omega)) ?_
                  rw [← hQ2]
                  show zW E (d - 1) 50 13 [(2, 1), (0, a1), (0, a2)] [(0, 0)] m0 Q1
                  refine zw_40_1 zr_50_13 ?_ ?_
                  · intro h73
                    refine zw_push zr_50_25 ?_
                    refine zw_R zr_50_26 (by decide) zm_50 (v := (0, 0)) (zRetB (by omega)) ?_
                    rw [← hQ1]
                    show zW E (d) 102 16 [(2, 0), (0, a0), (0, a1), (0, a2), (0, a3), (0, a4)] [(0, 0)] m0 Q
                    refine zw_40_1 zr_102_16 ?_ ?_
                    · intro h74
                      refine zw_push zr_102_40 ?_
                      refine zw_R zr_102_42 (by decide) zm_102 (v := (0, (-2))) rfl ?_
                      rw [← hQ]; exact ⟨_, rfl, by omega, by omega, hI0, hF0, by omega, by omega, by rw [hG5]; first | exact (if_neg (by omega)).symm | exact (if_pos (by omega)).symm, by rw [hG6]; first | exact (if_neg (by omega)).symm | exact (if_pos (by omega)).symm, by rw [hG7]; first | exact (if_neg (by omega)).symm | exact (if_pos (by omega)).symm, by rw [hG8]; first | exact (if_neg (by omega)).symm | exact (if_pos (by omega)).symm, by omega, by omega⟩
                    · intro h83; omega
                  · intro h84; omega
                · intro h85
                  refine zw_push zr_49_12 ?_
                  refine zw_42 zr_49_13 ?_
                  refine zw_R zr_49_17 (by decide) zm_49 (v := (0, 1)) (zRetB (by omega)) ?_
                  rw [← hQ2]
                  show zW E (d - 1) 50 13 [(2, 1), (0, a1), (0, a2)] [(0, 1)] m0 Q1
                  refine zw_40_1 zr_50_13 ?_ ?_
                  · intro h86; omega
                  · intro h87
                    refine zw_3 zr_50_16 rfl ?_
                    refine zw_3 zr_50_17 rfl ?_
                    refine zw_41_1 zr_50_18 ?_ ?_
                    · intro h88
                      refine zw_push zr_50_25 ?_
                      refine zw_R zr_50_26 (by decide) zm_50 (v := (0, 0)) (zRetB (by omega)) ?_
                      rw [← hQ1]
                      show zW E (d) 102 16 [(2, 0), (0, a0), (0, a1), (0, a2), (0, a3), (0, a4)] [(0, 0)] m0 Q
                      refine zw_40_1 zr_102_16 ?_ ?_
                      · intro h89
                        refine zw_push zr_102_40 ?_
                        refine zw_R zr_102_42 (by decide) zm_102 (v := (0, (-2))) rfl ?_
                        rw [← hQ]; exact ⟨_, rfl, by omega, by omega, hI0, hF0, by omega, by omega, by rw [hG5]; first | exact (if_neg (by omega)).symm | exact (if_pos (by omega)).symm, by rw [hG6]; first | exact (if_neg (by omega)).symm | exact (if_pos (by omega)).symm, by rw [hG7]; first | exact (if_neg (by omega)).symm | exact (if_pos (by omega)).symm, by rw [hG8]; first | exact (if_neg (by omega)).symm | exact (if_pos (by omega)).symm, by omega, by omega⟩
                      · intro h98; omega
                    · intro h99
                      refine zw_push zr_50_21 ?_
                      refine zw_42 zr_50_22 ?_
                      refine zw_R zr_50_26 (by decide) zm_50 (v := (0, 1)) (zRetB (by omega)) ?_
                      rw [← hQ1]
                      show zW E (d) 102 16 [(2, 0), (0, a0), (0, a1), (0, a2), (0, a3), (0, a4)] [(0, 1)] m0 Q
                      refine zw_40_1 zr_102_16 ?_ ?_
                      · intro h100; omega
                      · intro h101
                        refine zw_4 zr_102_19 rfl ?_
                        refine zw_push zr_102_21 ?_
                        refine zw_push zr_102_22 ?_
                        refine zw_C zr_102_23 (Or.inr rfl) zm_100 rfl rfl ⟨Nat.le_of_ble_eq_true rfl, Nat.le_of_ble_eq_true rfl, Nat.le_of_ble_eq_true rfl, rfl, by decide⟩ (by omega) (P := (fun v m' => zW E (d) 102 26 [(2, 0), (0, a0), (0, a1), (0, a2), (0, a3), (0, a4)] (if v.1 = 9 then [] else v :: []) m' Q)) ?_ (fun _ _ h => h)
                        generalize hQ1 : (fun v m' => zW E (d) 102 26 [(2, 0), (0, a0), (0, a1), (0, a2), (0, a3), (0, a4)] (if v.1 = 9 then [] else v :: []) m' Q) = Q1
                        show zW E (d - 1) 100 0 [(0, a3), (0, 0), (0, 2)] [] m0 Q1
                        refine zw_3 zr_100_0 rfl ?_
                        refine zw_3 zr_100_1 rfl ?_
                        refine zw_41_0 zr_100_2 ?_ ?_
                        · intro h102
                          refine zw_push zr_100_14 ?_
                          refine zw_R zr_100_15 (by decide) zm_100 (v := (0, 0)) (zRetB (by omega)) ?_
                          rw [← hQ1]
                          show zW E (d) 102 26 [(2, 0), (0, a0), (0, a1), (0, a2), (0, a3), (0, a4)] [(0, 0)] m0 Q
                          refine zw_40_1 zr_102_26 ?_ ?_
                          · intro h103
                            refine zw_push zr_102_40 ?_
                            refine zw_R zr_102_42 (by decide) zm_102 (v := (0, (-2))) rfl ?_
                            rw [← hQ]; exact ⟨_, rfl, by omega, by omega, hI0, hF0, by omega, by omega, by rw [hG5]; first | exact (if_neg (by omega)).symm | exact (if_pos (by omega)).symm, by rw [hG6]; first | exact (if_neg (by omega)).symm | exact (if_pos (by omega)).symm, by rw [hG7]; first | exact (if_neg (by omega)).symm | exact (if_pos (by omega)).symm, by rw [hG8]; first | exact (if_neg (by omega)).symm | exact (if_pos (by omega)).symm, by omega, by omega⟩
                          · intro h112; omega
                        · intro h113
                          refine zw_3 zr_100_5 rfl ?_
                          refine zw_3 zr_100_6 rfl ?_
                          refine zw_41_2 zr_100_7 ?_ ?_
                          · intro h114
                            refine zw_push zr_100_14 ?_
                            refine zw_R zr_100_15 (by decide) zm_100 (v := (0, 0)) (zRetB (by omega)) ?_
                            rw [← hQ1]
                            show zW E (d) 102 26 [(2, 0), (0, a0), (0, a1), (0, a2), (0, a3), (0, a4)] [(0, 0)] m0 Q
                            refine zw_40_1 zr_102_26 ?_ ?_
                            · intro h115
                              refine zw_push zr_102_40 ?_
                              refine zw_R zr_102_42 (by decide) zm_102 (v := (0, (-2))) rfl ?_
                              rw [← hQ]; exact ⟨_, rfl, by omega, by omega, hI0, hF0, by omega, by omega, by rw [hG5]; first | exact (if_neg (by omega)).symm | exact (if_pos (by omega)).symm, by rw [hG6]; first | exact (if_neg (by omega)).symm | exact (if_pos (by omega)).symm, by rw [hG7]; first | exact (if_neg (by omega)).symm | exact (if_pos (by omega)).symm, by rw [hG8]; first | exact (if_neg (by omega)).symm | exact (if_pos (by omega)).symm, by omega, by omega⟩
                            · intro h124; omega
                          · intro h125
                            refine zw_push zr_100_10 ?_
                            refine zw_42 zr_100_11 ?_
                            refine zw_R zr_100_15 (by decide) zm_100 (v := (0, 1)) (zRetB (by omega)) ?_
                            rw [← hQ1]
                            show zW E (d) 102 26 [(2, 0), (0, a0), (0, a1), (0, a2), (0, a3), (0, a4)] [(0, 1)] m0 Q
                            refine zw_40_1 zr_102_26 ?_ ?_
                            · intro h126; omega
                            · intro h127
                              refine zw_3 zr_102_29 rfl ?_
                              refine zw_7 zr_102_30 rfl ?_
                              refine zw_46r (s := 1) zr_102_31 rfl rfl rfl rfl ?_
                              refine zw_C zr_102_34 (Or.inl rfl) zm_51 rfl rfl ⟨Nat.le_of_ble_eq_true rfl, Nat.le_of_ble_eq_true rfl, Nat.le_of_ble_eq_true rfl, rfl, by decide⟩ (by omega) (P := (fun v m' => zW E (d) 102 37 [(2, 0), (0, a0), (0, a1), (0, a2), (0, a3), (0, a4)] (if v.1 = 9 then [(0, a0)] else v :: [(0, a0)]) m' Q)) ?_ (fun _ _ h => h)
                              generalize hQ1 : (fun v m' => zW E (d) 102 37 [(2, 0), (0, a0), (0, a1), (0, a2), (0, a3), (0, a4)] (if v.1 = 9 then [(0, a0)] else v :: [(0, a0)]) m' Q) = Q1
                              show zW E (d - 1) 51 0 [(2, 1)] [] m0 Q1
                              refine zw_7 zr_51_0 rfl ?_
                              refine zw_46i zr_51_1 hg1 rfl rfl rfl ?_
                              refine zw_40_5 zr_51_4 ?_ ?_
                              · intro h128
                                refine zw_push zr_51_21 ?_
                                refine zw_R zr_51_22 (by decide) zm_51 (v := (0, 0)) rfl ?_
                                rw [← hQ1]
                                show zW E (d) 102 37 [(2, 0), (0, a0), (0, a1), (0, a2), (0, a3), (0, a4)] [(0, 0), (0, a0)] m0 Q
                                refine zw_41_3 zr_102_37 ?_ ?_
                                · intro h129
                                  refine zw_7 zr_102_43 rfl ?_
                                  refine zw_46r (s := 1) zr_102_44 rfl rfl rfl rfl ?_
                                  refine zw_46i zr_102_47 hg1 rfl rfl rfl ?_
                                  refine zw_push zr_102_50 ?_
                                  refine zw_41_0 zr_102_52 ?_ ?_
                                  · intro h130
                                    refine zw_7 zr_102_58 rfl ?_
                                    refine zw_46r (s := 1) zr_102_59 rfl rfl rfl rfl ?_
                                    refine zw_3 zr_102_62 rfl ?_
                                    refine zw_3 zr_102_63 rfl ?_
                                    refine zw_3 zr_102_64 rfl ?_
                                    refine zw_4 zr_102_65 rfl ?_
                                    refine zw_4 zr_102_67 rfl ?_
                                    refine zw_C zr_102_69 (Or.inl rfl) zm_52 rfl rfl ⟨Nat.le_of_ble_eq_true rfl, Nat.le_of_ble_eq_true rfl, Nat.le_of_ble_eq_true rfl, rfl, by decide⟩ (by omega) (P := (fun v m' => zW E (d) 102 72 [(2, 0), (0, a0), (0, a1), (0, a2), (0, a3), (0, a4)] (if v.1 = 9 then [] else v :: []) m' Q)) ?_ (fun _ _ h => h)
                                    generalize hQ1 : (fun v m' => zW E (d) 102 72 [(2, 0), (0, a0), (0, a1), (0, a2), (0, a3), (0, a4)] (if v.1 = 9 then [] else v :: []) m' Q) = Q1
                                    show zW E (d - 1) 52 0 [(2, 1), (0, a0), (0, a1), (0, a2), (0, a3), (0, a4), (9, 0)] [] m0 Q1
                                    refine zw_7 zr_52_0 rfl ?_
                                    refine zw_46i zr_52_1 hg1 rfl rfl rfl ?_
                                    refine zw_10 (L' := [(2, 1), (0, a0), (0, a1), (0, a2), (0, a3), (0, a4), (0, g1)]) zr_52_4 (Nat.le_of_ble_eq_true rfl) rfl ?_
                                    refine zw_7 zr_52_6 rfl ?_
                                    refine zw_46r (s := 5) zr_52_7 rfl rfl rfl rfl ?_
                                    refine zw_4 zr_52_10 rfl ?_
                                    refine zw_3 zr_52_12 rfl ?_
                                    refine zw_49 (c := 5) (len := 60) zr_52_13 rfl rfl (by omega) (by omega) ?_
                                    intro m131 em131
                                    have hIm131 : zInv m131 := by rw [em131]; exact iu_5 hI0 (by omega)
                                    have hFm131 : zFr W_102 m0 m131 := by rw [em131]; exact hF0.any rfl
                                    have km131_1_0 : m131 1 0 = g0 := by rw [em131, zUp_ne (by omega)]; exact hg0
                                    have km131_1_1 : m131 1 1 = g1 := by rw [em131, zUp_ne (by omega)]; exact hg1
                                    have km131_1_2 : m131 1 2 = g2 := by rw [em131, zUp_ne (by omega)]; exact hg2
                                    have km131_5_0 : m131 5 0 = a0 := by rw [em131, show (g1 : Int).toNat = 0 by omega]; exact zUp_eq _ _ _ _
                                    have fm131_5 : m131 5 = zPt F5 ((g1).toNat) a0 := by rw [em131]; exact (zUp_ff (m := m0)).trans (congrArg (fun q => zPt q ((g1).toNat) a0) hG5)
                                    have fm131_6 : m131 6 = F6 := by rw [em131, zUp_fn (by decide)]; exact hG6
                                    have fm131_7 : m131 7 = F7 := by rw [em131, zUp_fn (by decide)]; exact hG7
                                    have fm131_8 : m131 8 = F8 := by rw [em131, zUp_fn (by decide)]; exact hG8
                                    clear em131
                                    refine zw_7 zr_52_14 rfl ?_
                                    refine zw_46r (s := 6) zr_52_15 rfl rfl rfl rfl ?_
                                    refine zw_4 zr_52_18 rfl ?_
                                    refine zw_3 zr_52_20 rfl ?_
                                    refine zw_49 (c := 6) (len := 60) zr_52_21 rfl rfl (by omega) (by omega) ?_
                                    intro m132 em132
                                    have hIm132 : zInv m132 := by rw [em132]; exact iu_6 hIm131 (by omega)
                                    have hFm132 : zFr W_102 m0 m132 := by rw [em132]; exact hFm131.any rfl
                                    have km132_1_0 : m132 1 0 = g0 := by rw [em132, zUp_ne (by omega)]; exact km131_1_0
                                    have km132_1_1 : m132 1 1 = g1 := by rw [em132, zUp_ne (by omega)]; exact km131_1_1
                                    have km132_1_2 : m132 1 2 = g2 := by rw [em132, zUp_ne (by omega)]; exact km131_1_2
                                    have km132_5_0 : m132 5 0 = a0 := by rw [em132, zUp_ne (by omega)]; exact km131_5_0
                                    have km132_6_0 : m132 6 0 = a1 := by rw [em132, show (g1 : Int).toNat = 0 by omega]; exact zUp_eq _ _ _ _
                                    have fm132_5 : m132 5 = zPt F5 ((g1).toNat) a0 := by rw [em132, zUp_fn (by decide)]; exact fm131_5
                                    have fm132_6 : m132 6 = zPt F6 ((g1).toNat) a1 := by rw [em132]; exact (zUp_ff (m := m131)).trans (congrArg (fun q => zPt q ((g1).toNat) a1) fm131_6)
                                    have fm132_7 : m132 7 = F7 := by rw [em132, zUp_fn (by decide)]; exact fm131_7
                                    have fm132_8 : m132 8 = F8 := by rw [em132, zUp_fn (by decide)]; exact fm131_8
                                    clear em132
                                    refine zw_7 zr_52_22 rfl ?_
                                    refine zw_46r (s := 7) zr_52_23 rfl rfl rfl rfl ?_
                                    refine zw_4 zr_52_26 rfl ?_
                                    refine zw_3 zr_52_28 rfl ?_
                                    refine zw_49 (c := 7) (len := 60) zr_52_29 rfl rfl (by omega) (by omega) ?_
                                    intro m133 em133
                                    have hIm133 : zInv m133 := by rw [em133]; exact iu_7 hIm132 (by omega)
                                    have hFm133 : zFr W_102 m0 m133 := by rw [em133]; exact hFm132.any rfl
                                    have km133_1_0 : m133 1 0 = g0 := by rw [em133, zUp_ne (by omega)]; exact km132_1_0
                                    have km133_1_1 : m133 1 1 = g1 := by rw [em133, zUp_ne (by omega)]; exact km132_1_1
                                    have km133_1_2 : m133 1 2 = g2 := by rw [em133, zUp_ne (by omega)]; exact km132_1_2
                                    have km133_5_0 : m133 5 0 = a0 := by rw [em133, zUp_ne (by omega)]; exact km132_5_0
                                    have km133_6_0 : m133 6 0 = a1 := by rw [em133, zUp_ne (by omega)]; exact km132_6_0
                                    have km133_7_0 : m133 7 0 = a2 := by rw [em133, show (g1 : Int).toNat = 0 by omega]; exact zUp_eq _ _ _ _
                                    have fm133_5 : m133 5 = zPt F5 ((g1).toNat) a0 := by rw [em133, zUp_fn (by decide)]; exact fm132_5
                                    have fm133_6 : m133 6 = zPt F6 ((g1).toNat) a1 := by rw [em133, zUp_fn (by decide)]; exact fm132_6
                                    have fm133_7 : m133 7 = zPt F7 ((g1).toNat) a2 := by rw [em133]; exact (zUp_ff (m := m132)).trans (congrArg (fun q => zPt q ((g1).toNat) a2) fm132_7)
                                    have fm133_8 : m133 8 = F8 := by rw [em133, zUp_fn (by decide)]; exact fm132_8
                                    clear em133
                                    refine zw_7 zr_52_30 rfl ?_
                                    refine zw_46r (s := 8) zr_52_31 rfl rfl rfl rfl ?_
                                    refine zw_4 zr_52_34 rfl ?_
                                    refine zw_4 zr_52_36 rfl ?_
                                    refine zw_49 (c := 8) (len := 60) zr_52_38 rfl rfl (by omega) (by omega) ?_
                                    intro m134 em134
                                    have hIm134 : zInv m134 := by rw [em134]; exact iu_8 hIm133 (by omega)
                                    have hFm134 : zFr W_102 m0 m134 := by rw [em134]; exact hFm133.any rfl
                                    have km134_1_0 : m134 1 0 = g0 := by rw [em134, zUp_ne (by omega)]; exact km133_1_0
                                    have km134_1_1 : m134 1 1 = g1 := by rw [em134, zUp_ne (by omega)]; exact km133_1_1
                                    have km134_1_2 : m134 1 2 = g2 := by rw [em134, zUp_ne (by omega)]; exact km133_1_2
                                    have km134_5_0 : m134 5 0 = a0 := by rw [em134, zUp_ne (by omega)]; exact km133_5_0
                                    have km134_6_0 : m134 6 0 = a1 := by rw [em134, zUp_ne (by omega)]; exact km133_6_0
                                    have km134_7_0 : m134 7 0 = a2 := by rw [em134, zUp_ne (by omega)]; exact km133_7_0
                                    have km134_8_0 : m134 8 0 = a3 := by rw [em134, show (g1 : Int).toNat = 0 by omega]; exact zUp_eq _ _ _ _
                                    have fm134_5 : m134 5 = zPt F5 ((g1).toNat) a0 := by rw [em134, zUp_fn (by decide)]; exact fm133_5
                                    have fm134_6 : m134 6 = zPt F6 ((g1).toNat) a1 := by rw [em134, zUp_fn (by decide)]; exact fm133_6
                                    have fm134_7 : m134 7 = zPt F7 ((g1).toNat) a2 := by rw [em134, zUp_fn (by decide)]; exact fm133_7
                                    have fm134_8 : m134 8 = zPt F8 ((g1).toNat) a3 := by rw [em134]; exact (zUp_ff (m := m133)).trans (congrArg (fun q => zPt q ((g1).toNat) a3) fm133_8)
                                    clear em134
                                    refine zw_4 zr_52_39 rfl ?_
                                    refine zw_40_1 zr_52_41 ?_ ?_
                                    · intro h135
                                      refine zw_7 zr_52_57 rfl ?_
                                      refine zw_43 zr_52_58 rfl ?_
                                      refine zw_46i zr_52_59 km134_1_1 rfl rfl rfl ?_
                                      refine zw_push zr_52_62 ?_
                                      refine zw_16 zr_52_63 (by omega) ?_
                                      refine zw_47 (c := 1) zr_52_64 rfl ⟨rfl, by decide, rfl⟩ ?_
                                      intro m136 em136
                                      have hIm136 : zInv m136 := by rw [em136]; exact hIm134.bd (r := 1) (k := 1) (lo := 0) (hi := 60) rfl (by omega) (by decide) (by decide) (by decide)
                                      have hFm136 : zFr W_102 m0 m136 := by rw [em136]; exact hFm134.up rfl
                                      have km136_1_0 : m136 1 0 = g0 := by rw [em136, zUp_ne (by omega)]; exact km134_1_0
                                      have km136_1_2 : m136 1 2 = g2 := by rw [em136, zUp_ne (by omega)]; exact km134_1_2
                                      have km136_5_0 : m136 5 0 = a0 := by rw [em136, zUp_ne (by omega)]; exact km134_5_0
                                      have km136_6_0 : m136 6 0 = a1 := by rw [em136, zUp_ne (by omega)]; exact km134_6_0
                                      have km136_7_0 : m136 7 0 = a2 := by rw [em136, zUp_ne (by omega)]; exact km134_7_0
                                      have km136_8_0 : m136 8 0 = a3 := by rw [em136, zUp_ne (by omega)]; exact km134_8_0
                                      have km136_1_1 : m136 1 1 = (g1 + 1) := by rw [em136]; exact zUp_eq _ _ _ _
                                      have fm136_5 : m136 5 = zPt F5 ((g1).toNat) a0 := by rw [em136, zUp_fn (by decide)]; exact fm134_5
                                      have fm136_6 : m136 6 = zPt F6 ((g1).toNat) a1 := by rw [em136, zUp_fn (by decide)]; exact fm134_6
                                      have fm136_7 : m136 7 = zPt F7 ((g1).toNat) a2 := by rw [em136, zUp_fn (by decide)]; exact fm134_7
                                      have fm136_8 : m136 8 = zPt F8 ((g1).toNat) a3 := by rw [em136, zUp_fn (by decide)]; exact fm134_8
                                      clear em136
                                      refine zw_4 zr_52_67 rfl ?_
                                      refine zw_R zr_52_69 (by decide) zm_52 (v := (0, g1)) rfl ?_
                                      rw [← hQ1]
                                      show zW E (d) 102 72 [(2, 0), (0, a0), (0, a1), (0, a2), (0, a3), (0, a4)] [(0, g1)] m136 Q
                                      refine zw_R zr_102_72 (by decide) zm_102 (v := (0, g1)) rfl ?_
                                      rw [← hQ]; exact ⟨_, rfl, by omega, by omega, hIm136, hFm136, by omega, by omega, by rw [fm136_5]; first | exact (if_neg (by omega)).symm | exact (if_pos (by omega)).symm, by rw [fm136_6]; first | exact (if_neg (by omega)).symm | exact (if_pos (by omega)).symm, by rw [fm136_7]; first | exact (if_neg (by omega)).symm | exact (if_pos (by omega)).symm, by rw [fm136_8]; first | exact (if_neg (by omega)).symm | exact (if_pos (by omega)).symm, by omega, by omega⟩
                                    · intro h145
                                      refine zw_7 zr_52_44 rfl ?_
                                      refine zw_43 zr_52_45 rfl ?_
                                      refine zw_46l zr_52_46 km134_1_2 rfl rfl rfl ?_
                                      refine zw_push zr_52_49 ?_
                                      refine zw_4 zr_52_50 rfl ?_
                                      refine zw_33p zr_52_52 (by omega) ?_
                                      intro x146 ex146 hx146a hx146b
                                      refine zw_31p (s := g1) zr_52_53 ex146 (by omega) (by omega) ?_
                                      intro x147 ex147 hx147a hx147b
                                      refine zw_47 (c := 1) zr_52_54 rfl ⟨rfl, by decide, rfl⟩ ?_
                                      intro m148 em148
                                      have hIm148 : zInv m148 := by rw [em148]; exact hIm134.bdl (r := 1) (k := 2) (lo := 0) (hi := 1152921504606846975) rfl (by omega) (by decide) (by decide) (by decide) (by decide)
                                      have hFm148 : zFr W_102 m0 m148 := by rw [em148]; exact hFm134.up rfl
                                      have km148_1_0 : m148 1 0 = g0 := by rw [em148, zUp_ne (by omega)]; exact km134_1_0
                                      have km148_1_1 : m148 1 1 = g1 := by rw [em148, zUp_ne (by omega)]; exact km134_1_1
                                      have km148_5_0 : m148 5 0 = a0 := by rw [em148, zUp_ne (by omega)]; exact km134_5_0
                                      have km148_6_0 : m148 6 0 = a1 := by rw [em148, zUp_ne (by omega)]; exact km134_6_0
                                      have km148_7_0 : m148 7 0 = a2 := by rw [em148, zUp_ne (by omega)]; exact km134_7_0
                                      have km148_8_0 : m148 8 0 = a3 := by rw [em148, zUp_ne (by omega)]; exact km134_8_0
                                      have km148_1_2 : m148 1 2 = x147 := by rw [em148]; exact zUp_eq _ _ _ _
                                      have fm148_5 : m148 5 = zPt F5 ((g1).toNat) a0 := by rw [em148, zUp_fn (by decide)]; exact fm134_5
                                      have fm148_6 : m148 6 = zPt F6 ((g1).toNat) a1 := by rw [em148, zUp_fn (by decide)]; exact fm134_6
                                      have fm148_7 : m148 7 = zPt F7 ((g1).toNat) a2 := by rw [em148, zUp_fn (by decide)]; exact fm134_7
                                      have fm148_8 : m148 8 = zPt F8 ((g1).toNat) a3 := by rw [em148, zUp_fn (by decide)]; exact fm134_8
                                      clear em148
                                      refine zw_7 zr_52_57 rfl ?_
                                      refine zw_43 zr_52_58 rfl ?_
                                      refine zw_46i zr_52_59 km148_1_1 rfl rfl rfl ?_
                                      refine zw_push zr_52_62 ?_
                                      refine zw_16 zr_52_63 (by omega) ?_
                                      refine zw_47 (c := 1) zr_52_64 rfl ⟨rfl, by decide, rfl⟩ ?_
                                      intro m149 em149
                                      have hIm149 : zInv m149 := by rw [em149]; exact hIm148.bd (r := 1) (k := 1) (lo := 0) (hi := 60) rfl (by omega) (by decide) (by decide) (by decide)
                                      have hFm149 : zFr W_102 m0 m149 := by rw [em149]; exact hFm148.up rfl
                                      have km149_1_0 : m149 1 0 = g0 := by rw [em149, zUp_ne (by omega)]; exact km148_1_0
                                      have km149_5_0 : m149 5 0 = a0 := by rw [em149, zUp_ne (by omega)]; exact km148_5_0
                                      have km149_6_0 : m149 6 0 = a1 := by rw [em149, zUp_ne (by omega)]; exact km148_6_0
                                      have km149_7_0 : m149 7 0 = a2 := by rw [em149, zUp_ne (by omega)]; exact km148_7_0
                                      have km149_8_0 : m149 8 0 = a3 := by rw [em149, zUp_ne (by omega)]; exact km148_8_0
                                      have km149_1_2 : m149 1 2 = x147 := by rw [em149, zUp_ne (by omega)]; exact km148_1_2
                                      have km149_1_1 : m149 1 1 = (g1 + 1) := by rw [em149]; exact zUp_eq _ _ _ _
                                      have fm149_5 : m149 5 = zPt F5 ((g1).toNat) a0 := by rw [em149, zUp_fn (by decide)]; exact fm148_5
                                      have fm149_6 : m149 6 = zPt F6 ((g1).toNat) a1 := by rw [em149, zUp_fn (by decide)]; exact fm148_6
                                      have fm149_7 : m149 7 = zPt F7 ((g1).toNat) a2 := by rw [em149, zUp_fn (by decide)]; exact fm148_7
                                      have fm149_8 : m149 8 = zPt F8 ((g1).toNat) a3 := by rw [em149, zUp_fn (by decide)]; exact fm148_8
                                      clear em149
                                      refine zw_4 zr_52_67 rfl ?_
                                      refine zw_R zr_52_69 (by decide) zm_52 (v := (0, g1)) rfl ?_
                                      rw [← hQ1]
                                      show zW E (d) 102 72 [(2, 0), (0, a0), (0, a1), (0, a2), (0, a3), (0, a4)] [(0, g1)] m149 Q
                                      refine zw_R zr_102_72 (by decide) zm_102 (v := (0, g1)) rfl ?_
                                      rw [← hQ]; exact ⟨_, rfl, by omega, by omega, hIm149, hFm149, by omega, by omega, by rw [fm149_5]; first | exact (if_neg (by omega)).symm | exact (if_pos (by omega)).symm, by rw [fm149_6]; first | exact (if_neg (by omega)).symm | exact (if_pos (by omega)).symm, by rw [fm149_7]; first | exact (if_neg (by omega)).symm | exact (if_pos (by omega)).symm, by rw [fm149_8]; first | exact (if_neg (by omega)).symm | exact (if_pos (by omega)).symm, by omega, by omega⟩
                                  · intro h158; omega
                                · intro h159; omega
                              · intro h160
                                refine zw_7 zr_51_7 rfl ?_
                                refine zw_46r (s := 5) zr_51_8 rfl rfl rfl rfl ?_
                                refine zw_7 zr_51_11 rfl ?_
                                refine zw_46i zr_51_12 hg1 rfl rfl rfl ?_
                                refine zw_push zr_51_15 ?_
                                refine zw_17 zr_51_16 (by omega) ?_
                                refine zw_48 (c := 5) (len := 60) zr_51_17 rfl rfl (by omega) (by omega) ?_
                                intro x161 ex161
                                have bx161 := ib_5 hI0 (k := ((g1 - 1)).toNat) (by omega)
                                rw [← ex161] at bx161
                                have qx161 : x161 = F5 ((g1 - 1)).toNat := by rw [← hG5]; exact ex161
                                clear ex161
                                refine zw_42 zr_51_18 ?_
                                refine zw_R zr_51_22 (by decide) zm_51 (v := (0, x161)) rfl ?_
                                rw [← hQ1]
                                show zW E (d) 102 37 [(2, 0), (0, a0), (0, a1), (0, a2), (0, a3), (0, a4)] [(0, x161), (0, a0)] m0 Q
                                refine zw_41_3 zr_102_37 ?_ ?_
                                · intro h162
                                  refine zw_7 zr_102_43 rfl ?_
                                  refine zw_46r (s := 1) zr_102_44 rfl rfl rfl rfl ?_
                                  refine zw_46i zr_102_47 hg1 rfl rfl rfl ?_
                                  refine zw_push zr_102_50 ?_
                                  refine zw_41_0 zr_102_52 ?_ ?_
                                  · intro h163
                                    refine zw_7 zr_102_58 rfl ?_
                                    refine zw_46r (s := 1) zr_102_59 rfl rfl rfl rfl ?_
                                    refine zw_3 zr_102_62 rfl ?_
                                    refine zw_3 zr_102_63 rfl ?_
                                    refine zw_3 zr_102_64 rfl ?_
                                    refine zw_4 zr_102_65 rfl ?_
                                    refine zw_4 zr_102_67 rfl ?_
                                    refine zw_C zr_102_69 (Or.inl rfl) zm_52 rfl rfl ⟨Nat.le_of_ble_eq_true rfl, Nat.le_of_ble_eq_true rfl, Nat.le_of_ble_eq_true rfl, rfl, by decide⟩ (by omega) (P := (fun v m' => zW E (d) 102 72 [(2, 0), (0, a0), (0, a1), (0, a2), (0, a3), (0, a4)] (if v.1 = 9 then [] else v :: []) m' Q)) ?_ (fun _ _ h => h)
                                    generalize hQ1 : (fun v m' => zW E (d) 102 72 [(2, 0), (0, a0), (0, a1), (0, a2), (0, a3), (0, a4)] (if v.1 = 9 then [] else v :: []) m' Q) = Q1
                                    show zW E (d - 1) 52 0 [(2, 1), (0, a0), (0, a1), (0, a2), (0, a3), (0, a4), (9, 0)] [] m0 Q1
                                    refine zw_7 zr_52_0 rfl ?_
                                    refine zw_46i zr_52_1 hg1 rfl rfl rfl ?_
                                    refine zw_10 (L' := [(2, 1), (0, a0), (0, a1), (0, a2), (0, a3), (0, a4), (0, g1)]) zr_52_4 (Nat.le_of_ble_eq_true rfl) rfl ?_
                                    refine zw_7 zr_52_6 rfl ?_
                                    refine zw_46r (s := 5) zr_52_7 rfl rfl rfl rfl ?_
                                    refine zw_4 zr_52_10 rfl ?_
                                    refine zw_3 zr_52_12 rfl ?_
                                    refine zw_49 (c := 5) (len := 60) zr_52_13 rfl rfl (by omega) (by omega) ?_
                                    intro m164 em164
                                    have hIm164 : zInv m164 := by rw [em164]; exact iu_5 hI0 (by omega)
                                    have hFm164 : zFr W_102 m0 m164 := by rw [em164]; exact hF0.any rfl
                                    have km164_1_0 : m164 1 0 = g0 := by rw [em164, zUp_ne (by omega)]; exact hg0
                                    have km164_1_1 : m164 1 1 = g1 := by rw [em164, zUp_ne (by omega)]; exact hg1
                                    have km164_1_2 : m164 1 2 = g2 := by rw [em164, zUp_ne (by omega)]; exact hg2
                                    have fm164_5 : m164 5 = zPt F5 ((g1).toNat) a0 := by rw [em164]; exact (zUp_ff (m := m0)).trans (congrArg (fun q => zPt q ((g1).toNat) a0) hG5)
                                    have fm164_6 : m164 6 = F6 := by rw [em164, zUp_fn (by decide)]; exact hG6
                                    have fm164_7 : m164 7 = F7 := by rw [em164, zUp_fn (by decide)]; exact hG7
                                    have fm164_8 : m164 8 = F8 := by rw [em164, zUp_fn (by decide)]; exact hG8
                                    clear em164
                                    refine zw_7 zr_52_14 rfl ?_
                                    refine zw_46r (s := 6) zr_52_15 rfl rfl rfl rfl ?_
                                    refine zw_4 zr_52_18 rfl ?_
                                    refine zw_3 zr_52_20 rfl ?_
                                    refine zw_49 (c := 6) (len := 60) zr_52_21 rfl rfl (by omega) (by omega) ?_
                                    intro m165 em165
                                    have hIm165 : zInv m165 := by rw [em165]; exact iu_6 hIm164 (by omega)
                                    have hFm165 : zFr W_102 m0 m165 := by rw [em165]; exact hFm164.any rfl
                                    have km165_1_0 : m165 1 0 = g0 := by rw [em165, zUp_ne (by omega)]; exact km164_1_0
                                    have km165_1_1 : m165 1 1 = g1 := by rw [em165, zUp_ne (by omega)]; exact km164_1_1
                                    have km165_1_2 : m165 1 2 = g2 := by rw [em165, zUp_ne (by omega)]; exact km164_1_2
                                    have fm165_5 : m165 5 = zPt F5 ((g1).toNat) a0 := by rw [em165, zUp_fn (by decide)]; exact fm164_5
                                    have fm165_6 : m165 6 = zPt F6 ((g1).toNat) a1 := by rw [em165]; exact (zUp_ff (m := m164)).trans (congrArg (fun q => zPt q ((g1).toNat) a1) fm164_6)
                                    have fm165_7 : m165 7 = F7 := by rw [em165, zUp_fn (by decide)]; exact fm164_7
                                    have fm165_8 : m165 8 = F8 := by rw [em165, zUp_fn (by decide)]; exact fm164_8
                                    clear em165
                                    refine zw_7 zr_52_22 rfl ?_
                                    refine zw_46r (s := 7) zr_52_23 rfl rfl rfl rfl ?_
                                    refine zw_4 zr_52_26 rfl ?_
                                    refine zw_3 zr_52_28 rfl ?_
                                    refine zw_49 (c := 7) (len := 60) zr_52_29 rfl rfl (by omega) (by omega) ?_
                                    intro m166 em166
                                    have hIm166 : zInv m166 := by rw [em166]; exact iu_7 hIm165 (by omega)
                                    have hFm166 : zFr W_102 m0 m166 := by rw [em166]; exact hFm165.any rfl
                                    have km166_1_0 : m166 1 0 = g0 := by rw [em166, zUp_ne (by omega)]; exact km165_1_0
                                    have km166_1_1 : m166 1 1 = g1 := by rw [em166, zUp_ne (by omega)]; exact km165_1_1
                                    have km166_1_2 : m166 1 2 = g2 := by rw [em166, zUp_ne (by omega)]; exact km165_1_2
                                    have fm166_5 : m166 5 = zPt F5 ((g1).toNat) a0 := by rw [em166, zUp_fn (by decide)]; exact fm165_5
                                    have fm166_6 : m166 6 = zPt F6 ((g1).toNat) a1 := by rw [em166, zUp_fn (by decide)]; exact fm165_6
                                    have fm166_7 : m166 7 = zPt F7 ((g1).toNat) a2 := by rw [em166]; exact (zUp_ff (m := m165)).trans (congrArg (fun q => zPt q ((g1).toNat) a2) fm165_7)
                                    have fm166_8 : m166 8 = F8 := by rw [em166, zUp_fn (by decide)]; exact fm165_8
                                    clear em166
                                    refine zw_7 zr_52_30 rfl ?_
                                    refine zw_46r (s := 8) zr_52_31 rfl rfl rfl rfl ?_
                                    refine zw_4 zr_52_34 rfl ?_
                                    refine zw_4 zr_52_36 rfl ?_
                                    refine zw_49 (c := 8) (len := 60) zr_52_38 rfl rfl (by omega) (by omega) ?_
                                    intro m167 em167
                                    have hIm167 : zInv m167 := by rw [em167]; exact iu_8 hIm166 (by omega)
                                    have hFm167 : zFr W_102 m0 m167 := by rw [em167]; exact hFm166.any rfl
                                    have km167_1_0 : m167 1 0 = g0 := by rw [em167, zUp_ne (by omega)]; exact km166_1_0
                                    have km167_1_1 : m167 1 1 = g1 := by rw [em167, zUp_ne (by omega)]; exact km166_1_1
                                    have km167_1_2 : m167 1 2 = g2 := by rw [em167, zUp_ne (by omega)]; exact km166_1_2
                                    have fm167_5 : m167 5 = zPt F5 ((g1).toNat) a0 := by rw [em167, zUp_fn (by decide)]; exact fm166_5
                                    have fm167_6 : m167 6 = zPt F6 ((g1).toNat) a1 := by rw [em167, zUp_fn (by decide)]; exact fm166_6
                                    have fm167_7 : m167 7 = zPt F7 ((g1).toNat) a2 := by rw [em167, zUp_fn (by decide)]; exact fm166_7
                                    have fm167_8 : m167 8 = zPt F8 ((g1).toNat) a3 := by rw [em167]; exact (zUp_ff (m := m166)).trans (congrArg (fun q => zPt q ((g1).toNat) a3) fm166_8)
                                    clear em167
                                    refine zw_4 zr_52_39 rfl ?_
                                    refine zw_40_1 zr_52_41 ?_ ?_
                                    · intro h168
                                      refine zw_7 zr_52_57 rfl ?_
                                      refine zw_43 zr_52_58 rfl ?_
                                      refine zw_46i zr_52_59 km167_1_1 rfl rfl rfl ?_
                                      refine zw_push zr_52_62 ?_
                                      refine zw_16 zr_52_63 (by omega) ?_
                                      refine zw_47 (c := 1) zr_52_64 rfl ⟨rfl, by decide, rfl⟩ ?_
                                      intro m169 em169
                                      have hIm169 : zInv m169 := by rw [em169]; exact hIm167.bd (r := 1) (k := 1) (lo := 0) (hi := 60) rfl (by omega) (by decide) (by decide) (by decide)
                                      have hFm169 : zFr W_102 m0 m169 := by rw [em169]; exact hFm167.up rfl
                                      have km169_1_0 : m169 1 0 = g0 := by rw [em169, zUp_ne (by omega)]; exact km167_1_0
                                      have km169_1_2 : m169 1 2 = g2 := by rw [em169, zUp_ne (by omega)]; exact km167_1_2
                                      have km169_1_1 : m169 1 1 = (g1 + 1) := by rw [em169]; exact zUp_eq _ _ _ _
                                      have fm169_5 : m169 5 = zPt F5 ((g1).toNat) a0 := by rw [em169, zUp_fn (by decide)]; exact fm167_5
                                      have fm169_6 : m169 6 = zPt F6 ((g1).toNat) a1 := by rw [em169, zUp_fn (by decide)]; exact fm167_6
                                      have fm169_7 : m169 7 = zPt F7 ((g1).toNat) a2 := by rw [em169, zUp_fn (by decide)]; exact fm167_7
                                      have fm169_8 : m169 8 = zPt F8 ((g1).toNat) a3 := by rw [em169, zUp_fn (by decide)]; exact fm167_8
                                      clear em169
                                      refine zw_4 zr_52_67 rfl ?_
                                      refine zw_R zr_52_69 (by decide) zm_52 (v := (0, g1)) rfl ?_
                                      rw [← hQ1]
                                      show zW E (d) 102 72 [(2, 0), (0, a0), (0, a1), (0, a2), (0, a3), (0, a4)] [(0, g1)] m169 Q
                                      refine zw_R zr_102_72 (by decide) zm_102 (v := (0, g1)) rfl ?_
                                      rw [← hQ]; exact ⟨_, rfl, by omega, by omega, hIm169, hFm169, by omega, by omega, by rw [fm169_5]; first | exact (if_neg (by omega)).symm | exact (if_pos (by omega)).symm, by rw [fm169_6]; first | exact (if_neg (by omega)).symm | exact (if_pos (by omega)).symm, by rw [fm169_7]; first | exact (if_neg (by omega)).symm | exact (if_pos (by omega)).symm, by rw [fm169_8]; first | exact (if_neg (by omega)).symm | exact (if_pos (by omega)).symm, by omega, by omega⟩
                                    · intro h178
                                      refine zw_7 zr_52_44 rfl ?_
                                      refine zw_43 zr_52_45 rfl ?_
                                      refine zw_46l zr_52_46 km167_1_2 rfl rfl rfl ?_
                                      refine zw_push zr_52_49 ?_
                                      refine zw_4 zr_52_50 rfl ?_
                                      refine zw_33p zr_52_52 (by omega) ?_
                                      intro x179 ex179 hx179a hx179b
                                      refine zw_31p (s := g1) zr_52_53 ex179 (by omega) (by omega) ?_
                                      intro x180 ex180 hx180a hx180b
                                      refine zw_47 (c := 1) zr_52_54 rfl ⟨rfl, by decide, rfl⟩ ?_
                                      intro m181 em181
                                      have hIm181 : zInv m181 := by rw [em181]; exact hIm167.bdl (r := 1) (k := 2) (lo := 0) (hi := 1152921504606846975) rfl (by omega) (by decide) (by decide) (by decide) (by decide)
                                      have hFm181 : zFr W_102 m0 m181 := by rw [em181]; exact hFm167.up rfl
                                      have km181_1_0 : m181 1 0 = g0 := by rw [em181, zUp_ne (by omega)]; exact km167_1_0
                                      have km181_1_1 : m181 1 1 = g1 := by rw [em181, zUp_ne (by omega)]; exact km167_1_1
                                      have km181_1_2 : m181 1 2 = x180 := by rw [em181]; exact zUp_eq _ _ _ _
                                      have fm181_5 : m181 5 = zPt F5 ((g1).toNat) a0 := by rw [em181, zUp_fn (by decide)]; exact fm167_5
                                      have fm181_6 : m181 6 = zPt F6 ((g1).toNat) a1 := by rw [em181, zUp_fn (by decide)]; exact fm167_6
                                      have fm181_7 : m181 7 = zPt F7 ((g1).toNat) a2 := by rw [em181, zUp_fn (by decide)]; exact fm167_7
                                      have fm181_8 : m181 8 = zPt F8 ((g1).toNat) a3 := by rw [em181, zUp_fn (by decide)]; exact fm167_8
                                      clear em181
                                      refine zw_7 zr_52_57 rfl ?_
                                      refine zw_43 zr_52_58 rfl ?_
                                      refine zw_46i zr_52_59 km181_1_1 rfl rfl rfl ?_
                                      refine zw_push zr_52_62 ?_
                                      refine zw_16 zr_52_63 (by omega) ?_
                                      refine zw_47 (c := 1) zr_52_64 rfl ⟨rfl, by decide, rfl⟩ ?_
                                      intro m182 em182
                                      have hIm182 : zInv m182 := by rw [em182]; exact hIm181.bd (r := 1) (k := 1) (lo := 0) (hi := 60) rfl (by omega) (by decide) (by decide) (by decide)
                                      have hFm182 : zFr W_102 m0 m182 := by rw [em182]; exact hFm181.up rfl
                                      have km182_1_0 : m182 1 0 = g0 := by rw [em182, zUp_ne (by omega)]; exact km181_1_0
                                      have km182_1_2 : m182 1 2 = x180 := by rw [em182, zUp_ne (by omega)]; exact km181_1_2
                                      have km182_1_1 : m182 1 1 = (g1 + 1) := by rw [em182]; exact zUp_eq _ _ _ _
                                      have fm182_5 : m182 5 = zPt F5 ((g1).toNat) a0 := by rw [em182, zUp_fn (by decide)]; exact fm181_5
                                      have fm182_6 : m182 6 = zPt F6 ((g1).toNat) a1 := by rw [em182, zUp_fn (by decide)]; exact fm181_6
                                      have fm182_7 : m182 7 = zPt F7 ((g1).toNat) a2 := by rw [em182, zUp_fn (by decide)]; exact fm181_7
                                      have fm182_8 : m182 8 = zPt F8 ((g1).toNat) a3 := by rw [em182, zUp_fn (by decide)]; exact fm181_8
                                      clear em182
                                      refine zw_4 zr_52_67 rfl ?_
                                      refine zw_R zr_52_69 (by decide) zm_52 (v := (0, g1)) rfl ?_
                                      rw [← hQ1]
                                      show zW E (d) 102 72 [(2, 0), (0, a0), (0, a1), (0, a2), (0, a3), (0, a4)] [(0, g1)] m182 Q
                                      refine zw_R zr_102_72 (by decide) zm_102 (v := (0, g1)) rfl ?_
                                      rw [← hQ]; exact ⟨_, rfl, by omega, by omega, hIm182, hFm182, by omega, by omega, by rw [fm182_5]; first | exact (if_neg (by omega)).symm | exact (if_pos (by omega)).symm, by rw [fm182_6]; first | exact (if_neg (by omega)).symm | exact (if_pos (by omega)).symm, by rw [fm182_7]; first | exact (if_neg (by omega)).symm | exact (if_pos (by omega)).symm, by rw [fm182_8]; first | exact (if_neg (by omega)).symm | exact (if_pos (by omega)).symm, by omega, by omega⟩
                                  · intro h191
                                    refine zw_push zr_102_55 ?_
                                    refine zw_R zr_102_57 (by decide) zm_102 (v := (0, (-4))) rfl ?_
                                    rw [← hQ]; exact ⟨_, rfl, by omega, by omega, hI0, hF0, by omega, by omega, by rw [hG5]; first | exact (if_neg (by omega)).symm | exact (if_pos (by omega)).symm, by rw [hG6]; first | exact (if_neg (by omega)).symm | exact (if_pos (by omega)).symm, by rw [hG7]; first | exact (if_neg (by omega)).symm | exact (if_pos (by omega)).symm, by rw [hG8]; first | exact (if_neg (by omega)).symm | exact (if_pos (by omega)).symm, by omega, by omega⟩
                                · intro h200
                                  refine zw_push zr_102_40 ?_
                                  refine zw_R zr_102_42 (by decide) zm_102 (v := (0, (-2))) rfl ?_
                                  rw [← hQ]; exact ⟨_, rfl, by omega, by omega, hI0, hF0, by omega, by omega, by rw [hG5]; first | exact (if_neg (by omega)).symm | exact (if_pos (by omega)).symm, by rw [hG6]; first | exact (if_neg (by omega)).symm | exact (if_pos (by omega)).symm, by rw [hG7]; first | exact (if_neg (by omega)).symm | exact (if_pos (by omega)).symm, by rw [hG8]; first | exact (if_neg (by omega)).symm | exact (if_pos (by omega)).symm, by omega, by omega⟩

abbrev W_146 : List (Nat × Nat) := [(70, 1000)]
set_option maxHeartbeats 8000000 in
theorem th_146 {E : zE} {d : Nat} {m0 : zM} {a0 : Int} {a1 : Int} {a2 : Int} {a3 : Int} {a4 : Int} {g0 : Int} {g1 : Int} {F70 : Nat → Int} (hd : 3 ≤ d) (hI0 : zInv m0) (hg0 : m0 70 822 = g0) (hg1 : m0 70 823 = g1) (hG70 : m0 70 = F70) (ha0 : (-2147483648) ≤ a0 ∧ a0 ≤ 2147483647) (ha1 : (-2147483648) ≤ a1 ∧ a1 ≤ 2147483647) (ha2 : (-2147483648) ≤ a2 ∧ a2 ≤ 2147483647) (ha3 : (-2147483648) ≤ a3 ∧ a3 ≤ 2147483647) (ha4 : 0 ≤ a4 ∧ a4 ≤ 1) : zC E d 146 [(2, 69), (0, a0), (0, a1), (0, a2), (0, a3), (0, a4)] m0 (fun v m' => ∃ r : Int, v = (0, r) ∧ (-4) ≤ r ∧ r ≤ 59 ∧ zInv m' ∧ zFr W_146 m0 m' ∧ ((r = -2 ∧ (a0 < 0 ∨ 99 < a0 ∨ a1 < 0 ∨ g0 ≤ a1 ∨ a2 < 0 ∨ g0 ≤ a2 ∨ a1 = a2 ∨ a3 < 0 ∨ 2 < a3 ∨ a0 < zlr F70 g1)) ∨ ((0 ≤ a0 ∧ a0 ≤ 99 ∧ 0 ≤ a1 ∧ a1 < g0 ∧ 0 ≤ a2 ∧ a2 < g0 ∧ a1 ≠ a2 ∧ 0 ≤ a3 ∧ a3 ≤ 2 ∧ zlr F70 g1 ≤ a0) ∧ ((r = -4 ∧ g1 = 60) ∨ (0 ≤ g1 ∧ g1 < 60 ∧ r = g1)))) ∧ (m' 70 = if 0 ≤ r then zPt (zPt (zPt (zPt (zPt (zPt (zPt (F70) (90 + 6 * g1 + 0).toNat a0) (90 + 6 * g1 + 1).toNat a1) (90 + 6 * g1 + 2).toNat a2) (90 + 6 * g1 + 3).toNat a3) (90 + 6 * g1 + 4).toNat a4) (90 + 6 * g1 + 5).toNat 0) 823 (g1 + 1) else F70)) := by
  have hF0 : zFr W_146 m0 m0 := zFr.rfl
  have bg0 : 0 ≤ m0 70 822 ∧ m0 70 822 ≤ 10 := ib_70_players hI0 (by omega)
  rw [hg0] at bg0
  have bg1 : 0 ≤ m0 70 823 ∧ m0 70 823 ≤ 60 := ib_70_meetings hI0 (by omega)
  rw [hg1] at bg1
  generalize hQ : (fun (v : zV) (m' : zM) => ∃ r : Int, v = (0, r) ∧ (-4) ≤ r ∧ r ≤ 59 ∧ zInv m' ∧ zFr W_146 m0 m' ∧ ((r = -2 ∧ (a0 < 0 ∨ 99 < a0 ∨ a1 < 0 ∨ g0 ≤ a1 ∨ a2 < 0 ∨ g0 ≤ a2 ∨ a1 = a2 ∨ a3 < 0 ∨ 2 < a3 ∨ a0 < zlr F70 g1)) ∨ ((0 ≤ a0 ∧ a0 ≤ 99 ∧ 0 ≤ a1 ∧ a1 < g0 ∧ 0 ≤ a2 ∧ a2 < g0 ∧ a1 ≠ a2 ∧ 0 ≤ a3 ∧ a3 ≤ 2 ∧ zlr F70 g1 ≤ a0) ∧ ((r = -4 ∧ g1 = 60) ∨ (0 ≤ g1 ∧ g1 < 60 ∧ r = g1)))) ∧ (m' 70 = if 0 ≤ r then zPt (zPt (zPt (zPt (zPt (zPt (zPt (F70) (90 + 6 * g1 + 0).toNat a0) (90 + 6 * g1 + 1).toNat a1) (90 + 6 * g1 + 2).toNat a2) (90 + 6 * g1 + 3).toNat a3) (90 + 6 * g1 + 4).toNat a4) (90 + 6 * g1 + 5).toNat 0) 823 (g1 + 1) else F70)) = Q
  show zW E d 146 0 [(2, 69), (0, a0), (0, a1), (0, a2), (0, a3), (0, a4), (9, 0), (9, 0)] [] m0 Q
  have z1 := zlr_c F70 g1
  refine zw_7 zr_146_0 rfl ?_
  refine zw_C zr_146_1 (Or.inl rfl) zm_142 rfl rfl ⟨Nat.le_of_ble_eq_true rfl, Nat.le_of_ble_eq_true rfl, Nat.le_of_ble_eq_true rfl, rfl, by decide⟩ (by omega) (P := (fun v m' => zW E (d) 146 4 [(2, 69), (0, a0), (0, a1), (0, a2), (0, a3), (0, a4), (9, 0), (9, 0)] (if v.1 = 9 then [] else v :: []) m' Q)) ?_ (fun _ _ h => h)
  generalize hQ1 : (fun v m' => zW E (d) 146 4 [(2, 69), (0, a0), (0, a1), (0, a2), (0, a3), (0, a4), (9, 0), (9, 0)] (if v.1 = 9 then [] else v :: []) m' Q) = Q1
  show zW E (d - 1) 142 0 [(2, 69)] [] m0 Q1
  refine zw_7 zr_142_0 rfl ?_
  refine zw_46r (s := 70) zr_142_1 rfl rfl rfl rfl ?_
  refine zw_push zr_142_4 ?_
  refine zw_48k (c := 70) (len := 826) zr_142_7 rfl rfl (by omega) (by omega) (show (823 : Int).toNat = 823 by omega) hg1 ?_
  refine zw_R zr_142_8 (by decide) zm_142 (v := (0, g1)) rfl ?_
  rw [← hQ1]
  show zW E (d) 146 4 [(2, 69), (0, a0), (0, a1), (0, a2), (0, a3), (0, a4), (9, 0), (9, 0)] [(0, g1)] m0 Q
  refine zw_40_4 zr_146_4 ?_ ?_
  · intro h2
    refine zw_7 zr_146_11 rfl ?_
    refine zw_7 zr_146_12 rfl ?_
    refine zw_C zr_146_13 (Or.inl rfl) zm_142 rfl rfl ⟨Nat.le_of_ble_eq_true rfl, Nat.le_of_ble_eq_true rfl, Nat.le_of_ble_eq_true rfl, rfl, by decide⟩ (by omega) (P := (fun v m' => zW E (d) 146 16 [(2, 69), (0, a0), (0, a1), (0, a2), (0, a3), (0, a4), (9, 0), (9, 0)] (if v.1 = 9 then [(2, 69)] else v :: [(2, 69)]) m' Q)) ?_ (fun _ _ h => h)
    generalize hQ1 : (fun v m' => zW E (d) 146 16 [(2, 69), (0, a0), (0, a1), (0, a2), (0, a3), (0, a4), (9, 0), (9, 0)] (if v.1 = 9 then [(2, 69)] else v :: [(2, 69)]) m' Q) = Q1
    show zW E (d - 1) 142 0 [(2, 69)] [] m0 Q1
    refine zw_7 zr_142_0 rfl ?_
    refine zw_46r (s := 70) zr_142_1 rfl rfl rfl rfl ?_
    refine zw_push zr_142_4 ?_
    refine zw_48k (c := 70) (len := 826) zr_142_7 rfl rfl (by omega) (by omega) (show (823 : Int).toNat = 823 by omega) hg1 ?_
    refine zw_R zr_142_8 (by decide) zm_142 (v := (0, g1)) rfl ?_
    rw [← hQ1]
    show zW E (d) 146 16 [(2, 69), (0, a0), (0, a1), (0, a2), (0, a3), (0, a4), (9, 0), (9, 0)] [(0, g1), (2, 69)] m0 Q
    refine zw_push zr_146_16 ?_
    refine zw_17 zr_146_17 (by omega) ?_
    refine zw_push zr_146_18 ?_
    refine zw_C zr_146_19 (Or.inl rfl) zm_144 rfl rfl ⟨Nat.le_of_ble_eq_true rfl, Nat.le_of_ble_eq_true rfl, Nat.le_of_ble_eq_true rfl, rfl, by decide⟩ (by omega) (P := (fun v m' => zW E (d) 146 22 [(2, 69), (0, a0), (0, a1), (0, a2), (0, a3), (0, a4), (9, 0), (9, 0)] (if v.1 = 9 then [] else v :: []) m' Q)) ?_ (fun _ _ h => h)
    generalize hQ1 : (fun v m' => zW E (d) 146 22 [(2, 69), (0, a0), (0, a1), (0, a2), (0, a3), (0, a4), (9, 0), (9, 0)] (if v.1 = 9 then [] else v :: []) m' Q) = Q1
    show zW E (d - 1) 144 0 [(2, 69), (0, (g1 - 1)), (0, 0)] [] m0 Q1
    refine zw_7 zr_144_0 rfl ?_
    refine zw_46r (s := 70) zr_144_1 rfl rfl rfl rfl ?_
    refine zw_push zr_144_4 ?_
    refine zw_push zr_144_6 ?_
    refine zw_3 zr_144_8 rfl ?_
    refine zw_18 zr_144_9 (by omega) ?_
    refine zw_16 zr_144_10 (by omega) ?_
    refine zw_3 zr_144_11 rfl ?_
    refine zw_16 zr_144_12 (by omega) ?_
    refine zw_48 (c := 70) (len := 826) zr_144_13 rfl rfl (by omega) (by omega) ?_
    intro x3 ex3
    have bx3 := ib_70_m0 hI0 (k := (((90 + (6 * (g1 - 1))) + 0)).toNat) (by omega)
    rw [← ex3] at bx3
    have qx3 : x3 = F70 (((90 + (6 * (g1 - 1))) + 0)).toNat := by rw [← hG70]; exact ex3
    clear ex3
    refine zw_R zr_144_14 (by decide) zm_144 (v := (0, x3)) rfl ?_
    rw [← hQ1]
    show zW E (d) 146 22 [(2, 69), (0, a0), (0, a1), (0, a2), (0, a3), (0, a4), (9, 0), (9, 0)] [(0, x3)] m0 Q
    refine zw_10 (L' := [(2, 69), (0, a0), (0, a1), (0, a2), (0, a3), (0, a4), (0, x3), (9, 0)]) zr_146_22 (Nat.le_of_ble_eq_true rfl) rfl ?_
    refine zw_3 zr_146_24 rfl ?_
    refine zw_36 zr_146_25 ?_
    refine zw_4 zr_146_26 rfl ?_
    refine zw_36 zr_146_28 ?_
    refine zw_push zr_146_29 ?_
    refine zw_C zr_146_32 (Or.inr rfl) zm_140 rfl rfl ⟨Nat.le_of_ble_eq_true rfl, Nat.le_of_ble_eq_true rfl, Nat.le_of_ble_eq_true rfl, rfl, by decide⟩ (by omega) (P := (fun v m' => zW E (d) 146 35 [(2, 69), (0, a0), (0, a1), (0, a2), (0, a3), (0, a4), (0, x3), (9, 0)] (if v.1 = 9 then [] else v :: []) m' Q)) ?_ (fun _ _ h => h)
    generalize hQ1 : (fun v m' => zW E (d) 146 35 [(2, 69), (0, a0), (0, a1), (0, a2), (0, a3), (0, a4), (0, x3), (9, 0)] (if v.1 = 9 then [] else v :: []) m' Q) = Q1
    show zW E (d - 1) 140 0 [(1, a0), (9, 0), (1, x3), (9, 0), (1, 99), (9, 0)] [] m0 Q1
    refine zw_5 zr_140_0 rfl ?_
    refine zw_5 zr_140_1 rfl ?_
    refine zw_39_0 zr_140_2 zr_140_3 ?_ ?_
    · intro h4
      refine zw_push zr_140_17 ?_
      refine zw_R zr_140_18 (by decide) zm_140 (v := (0, 0)) (zRetB (by omega)) ?_
      rw [← hQ1]
      show zW E (d) 146 35 [(2, 69), (0, a0), (0, a1), (0, a2), (0, a3), (0, a4), (0, x3), (9, 0)] [(0, 0)] m0 Q
      refine zw_40_1 zr_146_35 ?_ ?_
      · intro h5
        refine zw_push zr_146_72 ?_
        refine zw_R zr_146_74 (by decide) zm_146 (v := (0, (-2))) rfl ?_
        rw [← hQ]; exact ⟨_, rfl, by omega, by omega, hI0, hF0, by omega, by rw [hG70]; first | exact (if_neg (by omega)).symm | exact (if_pos (by omega)).symm | (rw [show a4 = 1 by omega]; first | exact (if_neg (by omega)).symm | exact (if_pos (by omega)).symm) | (rw [show a4 = 0 by omega]; first | exact (if_neg (by omega)).symm | exact (if_pos (by omega)).symm)⟩
      · intro h8; omega
    · intro h9
      refine zw_5 zr_140_6 rfl ?_
      refine zw_6 zr_140_7 rfl ?_
      refine zw_39_2 zr_140_9 zr_140_10 ?_ ?_
      · intro h10
        refine zw_push zr_140_17 ?_
        refine zw_R zr_140_18 (by decide) zm_140 (v := (0, 0)) (zRetB (by omega)) ?_
        rw [← hQ1]
        show zW E (d) 146 35 [(2, 69), (0, a0), (0, a1), (0, a2), (0, a3), (0, a4), (0, x3), (9, 0)] [(0, 0)] m0 Q
        refine zw_40_1 zr_146_35 ?_ ?_
        · intro h11
          refine zw_push zr_146_72 ?_
          refine zw_R zr_146_74 (by decide) zm_146 (v := (0, (-2))) rfl ?_
          rw [← hQ]; exact ⟨_, rfl, by omega, by omega, hI0, hF0, by omega, by rw [hG70]; first | exact (if_neg (by omega)).symm | exact (if_pos (by omega)).symm | (rw [show a4 = 1 by omega]; first | exact (if_neg (by omega)).symm | exact (if_pos (by omega)).symm) | (rw [show a4 = 0 by omega]; first | exact (if_neg (by omega)).symm | exact (if_pos (by omega)).symm)⟩
        · intro h14; omega
      · intro h15
        refine zw_push zr_140_13 ?_
        refine zw_42 zr_140_14 ?_
        refine zw_R zr_140_18 (by decide) zm_140 (v := (0, 1)) (zRetB (by omega)) ?_
        rw [← hQ1]
        show zW E (d) 146 35 [(2, 69), (0, a0), (0, a1), (0, a2), (0, a3), (0, a4), (0, x3), (9, 0)] [(0, 1)] m0 Q
        refine zw_40_1 zr_146_35 ?_ ?_
        · intro h16; omega
        · intro h17
          refine zw_7 zr_146_38 rfl ?_
          refine zw_3 zr_146_39 rfl ?_
          refine zw_C zr_146_40 (Or.inl rfl) zm_143 rfl rfl ⟨Nat.le_of_ble_eq_true rfl, Nat.le_of_ble_eq_true rfl, Nat.le_of_ble_eq_true rfl, rfl, by decide⟩ (by omega) (P := (fun v m' => zW E (d) 146 43 [(2, 69), (0, a0), (0, a1), (0, a2), (0, a3), (0, a4), (0, x3), (9, 0)] (if v.1 = 9 then [] else v :: []) m' Q)) ?_ (fun _ _ h => h)
          generalize hQ1 : (fun v m' => zW E (d) 146 43 [(2, 69), (0, a0), (0, a1), (0, a2), (0, a3), (0, a4), (0, x3), (9, 0)] (if v.1 = 9 then [] else v :: []) m' Q) = Q1
          show zW E (d - 1) 143 0 [(2, 69), (0, a1)] [] m0 Q1
          refine zw_3 zr_143_0 rfl ?_
          refine zw_36 zr_143_1 ?_
          refine zw_push zr_143_2 ?_
          refine zw_7 zr_143_3 rfl ?_
          refine zw_C zr_143_4 (Or.inl rfl) zm_141 rfl rfl ⟨Nat.le_of_ble_eq_true rfl, Nat.le_of_ble_eq_true rfl, Nat.le_of_ble_eq_true rfl, rfl, by decide⟩ (by omega) (P := (fun v m' => zW E (d - 1) 143 7 [(2, 69), (0, a1)] (if v.1 = 9 then [(1, 0), (1, a1)] else v :: [(1, 0), (1, a1)]) m' Q1)) ?_ (fun _ _ h => h)
          generalize hQ2 : (fun v m' => zW E (d - 1) 143 7 [(2, 69), (0, a1)] (if v.1 = 9 then [(1, 0), (1, a1)] else v :: [(1, 0), (1, a1)]) m' Q1) = Q2
          show zW E (d - 1 - 1) 141 0 [(2, 69)] [] m0 Q2
          refine zw_7 zr_141_0 rfl ?_
          refine zw_46r (s := 70) zr_141_1 rfl rfl rfl rfl ?_
          refine zw_push zr_141_4 ?_
          refine zw_48k (c := 70) (len := 826) zr_141_7 rfl rfl (by omega) (by omega) (show (822 : Int).toNat = 822 by omega) hg0 ?_
          refine zw_R zr_141_8 (by decide) zm_141 (v := (0, g0)) rfl ?_
          rw [← hQ2]
          show zW E (d - 1) 143 7 [(2, 69), (0, a1)] [(0, g0), (1, 0), (1, a1)] m0 Q1
          refine zw_push zr_143_7 ?_
          refine zw_17 zr_143_8 (by omega) ?_
          refine zw_36 zr_143_9 ?_
          refine zw_C zr_143_10 (Or.inr rfl) zm_140 rfl rfl ⟨Nat.le_of_ble_eq_true rfl, Nat.le_of_ble_eq_true rfl, Nat.le_of_ble_eq_true rfl, rfl, by decide⟩ (by omega) (P := (fun v m' => zW E (d - 1) 143 13 [(2, 69), (0, a1)] (if v.1 = 9 then [] else v :: []) m' Q1)) ?_ (fun _ _ h => h)
          generalize hQ2 : (fun v m' => zW E (d - 1) 143 13 [(2, 69), (0, a1)] (if v.1 = 9 then [] else v :: []) m' Q1) = Q2
          show zW E (d - 1 - 1) 140 0 [(1, a1), (9, 0), (1, 0), (9, 0), (1, (g0 - 1)), (9, 0)] [] m0 Q2
          refine zw_5 zr_140_0 rfl ?_
          refine zw_5 zr_140_1 rfl ?_
          refine zw_39_0 zr_140_2 zr_140_3 ?_ ?_
          · intro h18
            refine zw_push zr_140_17 ?_
            refine zw_R zr_140_18 (by decide) zm_140 (v := (0, 0)) (zRetB (by omega)) ?_
            rw [← hQ2]
            show zW E (d - 1) 143 13 [(2, 69), (0, a1)] [(0, 0)] m0 Q1
            refine zw_R zr_143_13 (by decide) zm_143 (v := (0, 0)) (zRetB (by omega)) ?_
            rw [← hQ1]
            show zW E (d) 146 43 [(2, 69), (0, a0), (0, a1), (0, a2), (0, a3), (0, a4), (0, x3), (9, 0)] [(0, 0)] m0 Q
            refine zw_40_1 zr_146_43 ?_ ?_
            · intro h19
              refine zw_push zr_146_72 ?_
              refine zw_R zr_146_74 (by decide) zm_146 (v := (0, (-2))) rfl ?_
              rw [← hQ]; exact ⟨_, rfl, by omega, by omega, hI0, hF0, by omega, by rw [hG70]; first | exact (if_neg (by omega)).symm | exact (if_pos (by omega)).symm | (rw [show a4 = 1 by omega]; first | exact (if_neg (by omega)).symm | exact (if_pos (by omega)).symm) | (rw [show a4 = 0 by omega]; first | exact (if_neg (by omega)).symm | exact (if_pos (by omega)).symm)⟩
            · intro h22; omega
          · intro h23
            refine zw_5 zr_140_6 rfl ?_
            refine zw_6 zr_140_7 rfl ?_
            refine zw_39_2 zr_140_9 zr_140_10 ?_ ?_
            · intro h24
              refine zw_push zr_140_17 ?_
              refine zw_R zr_140_18 (by decide) zm_140 (v := (0, 0)) (zRetB (by omega)) ?_
              rw [← hQ2]
              show zW E (d - 1) 143 13 [(2, 69), (0, a1)] [(0, 0)] m0 Q1
              refine zw_R zr_143_13 (by decide) zm_143 (v := (0, 0)) (zRetB (by omega)) ?_
              rw [← hQ1]
              show zW E (d) 146 43 [(2, 69), (0, a0), (0, a1), (0, a2), (0, a3), (0, a4), (0, x3), (9, 0)] [(0, 0)] m0 Q
              refine zw_40_1 zr_146_43 ?_ ?_
              · intro h25
                refine zw_push zr_146_72 ?_
                refine zw_R zr_146_74 (by decide) zm_146 (v := (0, (-2))) rfl ?_
                rw [← hQ]; exact ⟨_, rfl, by omega, by omega, hI0, hF0, by omega, by rw [hG70]; first | exact (if_neg (by omega)).symm | exact (if_pos (by omega)).symm | (rw [show a4 = 1 by omega]; first | exact (if_neg (by omega)).symm | exact (if_pos (by omega)).symm) | (rw [show a4 = 0 by omega]; first | exact (if_neg (by omega)).symm | exact (if_pos (by omega)).symm)⟩
              · intro h28; omega
            · intro h29
              refine zw_push zr_140_13 ?_
              refine zw_42 zr_140_14 ?_
              refine zw_R zr_140_18 (by decide) zm_140 (v := (0, 1)) (zRetB (by omega)) ?_
              rw [← hQ2]
              show zW E (d - 1) 143 13 [(2, 69), (0, a1)] [(0, 1)] m0 Q1
              refine zw_R zr_143_13 (by decide) zm_143 (v := (0, 1)) (zRetB (by omega)) ?_
              rw [← hQ1]
              show zW E (d) 146 43 [(2, 69), (0, a0), (0, a1), (0, a2), (0, a3), (0, a4), (0, x3), (9, 0)] [(0, 1)] m0 Q
              refine zw_40_1 zr_146_43 ?_ ?_
              · intro h30; omega
              · intro h31
                refine zw_7 zr_146_46 rfl ?_
                refine zw_3 zr_146_47 rfl ?_
                refine zw_C zr_146_48 (Or.inl rfl) zm_143 rfl rfl ⟨Nat.le_of_ble_eq_true rfl, Nat.le_of_ble_eq_true rfl, Nat.le_of_ble_eq_true rfl, rfl, by decide⟩ (by omega) (P := (fun v m' => zW E (d) 146 51 [(2, 69), (0, a0), (0, a1), (0, a2), (0, a3), (0, a4), (0, x3), (9, 0)] (if v.1 = 9 then [] else v :: []) m' Q)) ?_ (fun _ _ h => h)
                generalize hQ1 : (fun v m' => zW E (d) 146 51 [(2, 69), (0, a0), (0, a1), (0, a2), (0, a3), (0, a4), (0, x3), (9, 0)] (if v.1 = 9 then [] else v :: []) m' Q) = Q1
                show zW E (d - 1) 143 0 [(2, 69), (0, a2)] [] m0 Q1
                refine zw_3 zr_143_0 rfl ?_
                refine zw_36 zr_143_1 ?_
                refine zw_push zr_143_2 ?_
                refine zw_7 zr_143_3 rfl ?_
                refine zw_C zr_143_4 (Or.inl rfl) zm_141 rfl rfl ⟨Nat.le_of_ble_eq_true rfl, Nat.le_of_ble_eq_true rfl, Nat.le_of_ble_eq_true rfl, rfl, by decide⟩ (by omega) (P := (fun v m' => zW E (d - 1) 143 7 [(2, 69), (0, a2)] (if v.1 = 9 then [(1, 0), (1, a2)] else v :: [(1, 0), (1, a2)]) m' Q1)) ?_ (fun _ _ h => h)
                generalize hQ2 : (fun v m' => zW E (d - 1) 143 7 [(2, 69), (0, a2)] (if v.1 = 9 then [(1, 0), (1, a2)] else v :: [(1, 0), (1, a2)]) m' Q1) = Q2
                show zW E (d - 1 - 1) 141 0 [(2, 69)] [] m0 Q2
                refine zw_7 zr_141_0 rfl ?_
                refine zw_46r (s := 70) zr_141_1 rfl rfl rfl rfl ?_
                refine zw_push zr_141_4 ?_
                refine zw_48k (c := 70) (len := 826) zr_141_7 rfl rfl (by omega) (by omega) (show (822 : Int).toNat = 822 by omega) hg0 ?_
                refine zw_R zr_141_8 (by decide) zm_141 (v := (0, g0)) rfl ?_
                rw [← hQ2]
                show zW E (d - 1) 143 7 [(2, 69), (0, a2)] [(0, g0), (1, 0), (1, a2)] m0 Q1
                refine zw_push zr_143_7 ?_
                refine zw_17 zr_143_8 (by omega) ?_
                refine zw_36 zr_143_9 ?_
                refine zw_C zr_143_10 (Or.inr rfl) zm_140 rfl rfl ⟨Nat.le_of_ble_eq_true rfl, Nat.le_of_ble_eq_true rfl, Nat.le_of_ble_eq_true rfl, rfl, by decide⟩ (by omega) (P := (fun v m' => zW E (d - 1) 143 13 [(2, 69), (0, a2)] (if v.1 = 9 then [] else v :: []) m' Q1)) ?_ (fun _ _ h => h)
                generalize hQ2 : (fun v m' => zW E (d - 1) 143 13 [(2, 69), (0, a2)] (if v.1 = 9 then [] else v :: []) m' Q1) = Q2
                show zW E (d - 1 - 1) 140 0 [(1, a2), (9, 0), (1, 0), (9, 0), (1, (g0 - 1)), (9, 0)] [] m0 Q2
                refine zw_5 zr_140_0 rfl ?_
                refine zw_5 zr_140_1 rfl ?_
                refine zw_39_0 zr_140_2 zr_140_3 ?_ ?_
                · intro h32
                  refine zw_push zr_140_17 ?_
                  refine zw_R zr_140_18 (by decide) zm_140 (v := (0, 0)) (zRetB (by omega)) ?_
                  rw [← hQ2]
                  show zW E (d - 1) 143 13 [(2, 69), (0, a2)] [(0, 0)] m0 Q1
                  refine zw_R zr_143_13 (by decide) zm_143 (v := (0, 0)) (zRetB (by omega)) ?_
                  rw [← hQ1]
                  show zW E (d) 146 51 [(2, 69), (0, a0), (0, a1), (0, a2), (0, a3), (0, a4), (0, x3), (9, 0)] [(0, 0)] m0 Q
                  refine zw_40_1 zr_146_51 ?_ ?_
                  · intro h33
                    refine zw_push zr_146_72 ?_
                    refine zw_R zr_146_74 (by decide) zm_146 (v := (0, (-2))) rfl ?_
                    rw [← hQ]; exact ⟨_, rfl, by omega, by omega, hI0, hF0, by omega, by rw [hG70]; first | exact (if_neg (by omega)).symm | exact (if_pos (by omega)).symm | (rw [show a4 = 1 by omega]; first | exact (if_neg (by omega)).symm | exact (if_pos (by omega)).symm) | (rw [show a4 = 0 by omega]; first | exact (if_neg (by omega)).symm | exact (if_pos (by omega)).symm)⟩
                  · intro h36; omega
                · intro h37
                  refine zw_5 zr_140_6 rfl ?_
                  refine zw_6 zr_140_7 rfl ?_
                  refine zw_39_2 zr_140_9 zr_140_10 ?_ ?_
                  · intro h38
                    refine zw_push zr_140_17 ?_
                    refine zw_R zr_140_18 (by decide) zm_140 (v := (0, 0)) (zRetB (by omega)) ?_
                    rw [← hQ2]
                    show zW E (d - 1) 143 13 [(2, 69), (0, a2)] [(0, 0)] m0 Q1
                    refine zw_R zr_143_13 (by decide) zm_143 (v := (0, 0)) (zRetB (by omega)) ?_
                    rw [← hQ1]
                    show zW E (d) 146 51 [(2, 69), (0, a0), (0, a1), (0, a2), (0, a3), (0, a4), (0, x3), (9, 0)] [(0, 0)] m0 Q
                    refine zw_40_1 zr_146_51 ?_ ?_
                    · intro h39
                      refine zw_push zr_146_72 ?_
                      refine zw_R zr_146_74 (by decide) zm_146 (v := (0, (-2))) rfl ?_
                      rw [← hQ]; exact ⟨_, rfl, by omega, by omega, hI0, hF0, by omega, by rw [hG70]; first | exact (if_neg (by omega)).symm | exact (if_pos (by omega)).symm | (rw [show a4 = 1 by omega]; first | exact (if_neg (by omega)).symm | exact (if_pos (by omega)).symm) | (rw [show a4 = 0 by omega]; first | exact (if_neg (by omega)).symm | exact (if_pos (by omega)).symm)⟩
                    · intro h42; omega
                  · intro h43
                    refine zw_push zr_140_13 ?_
                    refine zw_42 zr_140_14 ?_
                    refine zw_R zr_140_18 (by decide) zm_140 (v := (0, 1)) (zRetB (by omega)) ?_
                    rw [← hQ2]
                    show zW E (d - 1) 143 13 [(2, 69), (0, a2)] [(0, 1)] m0 Q1
                    refine zw_R zr_143_13 (by decide) zm_143 (v := (0, 1)) (zRetB (by omega)) ?_
                    rw [← hQ1]
                    show zW E (d) 146 51 [(2, 69), (0, a0), (0, a1), (0, a2), (0, a3), (0, a4), (0, x3), (9, 0)] [(0, 1)] m0 Q
                    refine zw_40_1 zr_146_51 ?_ ?_
                    · intro h44; omega
                    · intro h45
                      refine zw_3 zr_146_54 rfl ?_
                      refine zw_3 zr_146_55 rfl ?_
                      refine zw_41_1 zr_146_56 ?_ ?_
                      · intro h46
                        refine zw_push zr_146_72 ?_
                        refine zw_R zr_146_74 (by decide) zm_146 (v := (0, (-2))) rfl ?_
                        rw [← hQ]; exact ⟨_, rfl, by omega, by omega, hI0, hF0, by omega, by rw [hG70]; first | exact (if_neg (by omega)).symm | exact (if_pos (by omega)).symm | (rw [show a4 = 1 by omega]; first | exact (if_neg (by omega)).symm | exact (if_pos (by omega)).symm) | (rw [show a4 = 0 by omega]; first | exact (if_neg (by omega)).symm | exact (if_pos (by omega)).symm)⟩
                      · intro h49
                        refine zw_4 zr_146_59 rfl ?_
                        refine zw_36 zr_146_61 ?_
                        refine zw_push zr_146_62 ?_
                        refine zw_push zr_146_63 ?_
                        refine zw_C zr_146_66 (Or.inr rfl) zm_140 rfl rfl ⟨Nat.le_of_ble_eq_true rfl, Nat.le_of_ble_eq_true rfl, Nat.le_of_ble_eq_true rfl, rfl, by decide⟩ (by omega) (P := (fun v m' => zW E (d) 146 69 [(2, 69), (0, a0), (0, a1), (0, a2), (0, a3), (0, a4), (0, x3), (9, 0)] (if v.1 = 9 then [] else v :: []) m' Q)) ?_ (fun _ _ h => h)
                        generalize hQ1 : (fun v m' => zW E (d) 146 69 [(2, 69), (0, a0), (0, a1), (0, a2), (0, a3), (0, a4), (0, x3), (9, 0)] (if v.1 = 9 then [] else v :: []) m' Q) = Q1
                        show zW E (d - 1) 140 0 [(1, a3), (9, 0), (1, 0), (9, 0), (1, 2), (9, 0)] [] m0 Q1
                        refine zw_5 zr_140_0 rfl ?_
                        refine zw_5 zr_140_1 rfl ?_
                        refine zw_39_0 zr_140_2 zr_140_3 ?_ ?_
                        · intro h50
                          refine zw_push zr_140_17 ?_
                          refine zw_R zr_140_18 (by decide) zm_140 (v := (0, 0)) (zRetB (by omega)) ?_
                          rw [← hQ1]
                          show zW E (d) 146 69 [(2, 69), (0, a0), (0, a1), (0, a2), (0, a3), (0, a4), (0, x3), (9, 0)] [(0, 0)] m0 Q
                          refine zw_40_4 zr_146_69 ?_ ?_
                          · intro h51; omega
                          · intro h52
                            refine zw_push zr_146_72 ?_
                            refine zw_R zr_146_74 (by decide) zm_146 (v := (0, (-2))) rfl ?_
                            rw [← hQ]; exact ⟨_, rfl, by omega, by omega, hI0, hF0, by omega, by rw [hG70]; first | exact (if_neg (by omega)).symm | exact (if_pos (by omega)).symm | (rw [show a4 = 1 by omega]; first | exact (if_neg (by omega)).symm | exact (if_pos (by omega)).symm) | (rw [show a4 = 0 by omega]; first | exact (if_neg (by omega)).symm | exact (if_pos (by omega)).symm)⟩
                        · intro h55
                          refine zw_5 zr_140_6 rfl ?_
                          refine zw_6 zr_140_7 rfl ?_
                          refine zw_39_2 zr_140_9 zr_140_10 ?_ ?_
                          · intro h56
                            refine zw_push zr_140_17 ?_
                            refine zw_R zr_140_18 (by decide) zm_140 (v := (0, 0)) (zRetB (by omega)) ?_
                            rw [← hQ1]
                            show zW E (d) 146 69 [(2, 69), (0, a0), (0, a1), (0, a2), (0, a3), (0, a4), (0, x3), (9, 0)] [(0, 0)] m0 Q
                            refine zw_40_4 zr_146_69 ?_ ?_
                            · intro h57; omega
                            · intro h58
                              refine zw_push zr_146_72 ?_
                              refine zw_R zr_146_74 (by decide) zm_146 (v := (0, (-2))) rfl ?_
                              rw [← hQ]; exact ⟨_, rfl, by omega, by omega, hI0, hF0, by omega, by rw [hG70]; first | exact (if_neg (by omega)).symm | exact (if_pos (by omega)).symm | (rw [show a4 = 1 by omega]; first | exact (if_neg (by omega)).symm | exact (if_pos (by omega)).symm) | (rw [show a4 = 0 by omega]; first | exact (if_neg (by omega)).symm | exact (if_pos (by omega)).symm)⟩
                          · intro h61
                            refine zw_push zr_140_13 ?_
                            refine zw_42 zr_140_14 ?_
                            refine zw_R zr_140_18 (by decide) zm_140 (v := (0, 1)) (zRetB (by omega)) ?_
                            rw [← hQ1]
                            show zW E (d) 146 69 [(2, 69), (0, a0), (0, a1), (0, a2), (0, a3), (0, a4), (0, x3), (9, 0)] [(0, 1)] m0 Q
                            refine zw_40_4 zr_146_69 ?_ ?_
                            · intro h62
                              refine zw_7 zr_146_75 rfl ?_
                              refine zw_C zr_146_76 (Or.inl rfl) zm_142 rfl rfl ⟨Nat.le_of_ble_eq_true rfl, Nat.le_of_ble_eq_true rfl, Nat.le_of_ble_eq_true rfl, rfl, by decide⟩ (by omega) (P := (fun v m' => zW E (d) 146 79 [(2, 69), (0, a0), (0, a1), (0, a2), (0, a3), (0, a4), (0, x3), (9, 0)] (if v.1 = 9 then [] else v :: []) m' Q)) ?_ (fun _ _ h => h)
                              generalize hQ1 : (fun v m' => zW E (d) 146 79 [(2, 69), (0, a0), (0, a1), (0, a2), (0, a3), (0, a4), (0, x3), (9, 0)] (if v.1 = 9 then [] else v :: []) m' Q) = Q1
                              show zW E (d - 1) 142 0 [(2, 69)] [] m0 Q1
                              refine zw_7 zr_142_0 rfl ?_
                              refine zw_46r (s := 70) zr_142_1 rfl rfl rfl rfl ?_
                              refine zw_push zr_142_4 ?_
                              refine zw_48k (c := 70) (len := 826) zr_142_7 rfl rfl (by omega) (by omega) (show (823 : Int).toNat = 823 by omega) hg1 ?_
                              refine zw_R zr_142_8 (by decide) zm_142 (v := (0, g1)) rfl ?_
                              rw [← hQ1]
                              show zW E (d) 146 79 [(2, 69), (0, a0), (0, a1), (0, a2), (0, a3), (0, a4), (0, x3), (9, 0)] [(0, g1)] m0 Q
                              refine zw_push zr_146_79 ?_
                              refine zw_41_4 zr_146_81 ?_ ?_
                              · intro h63
                                refine zw_push zr_146_87 ?_
                                refine zw_push zr_146_89 ?_
                                refine zw_7 zr_146_91 rfl ?_
                                refine zw_C zr_146_92 (Or.inl rfl) zm_142 rfl rfl ⟨Nat.le_of_ble_eq_true rfl, Nat.le_of_ble_eq_true rfl, Nat.le_of_ble_eq_true rfl, rfl, by decide⟩ (by omega) (P := (fun v m' => zW E (d) 146 95 [(2, 69), (0, a0), (0, a1), (0, a2), (0, a3), (0, a4), (0, x3), (9, 0)] (if v.1 = 9 then [(0, 6), (0, 90)] else v :: [(0, 6), (0, 90)]) m' Q)) ?_ (fun _ _ h => h)
                                generalize hQ1 : (fun v m' => zW E (d) 146 95 [(2, 69), (0, a0), (0, a1), (0, a2), (0, a3), (0, a4), (0, x3), (9, 0)] (if v.1 = 9 then [(0, 6), (0, 90)] else v :: [(0, 6), (0, 90)]) m' Q) = Q1
                                show zW E (d - 1) 142 0 [(2, 69)] [] m0 Q1
                                refine zw_7 zr_142_0 rfl ?_
                                refine zw_46r (s := 70) zr_142_1 rfl rfl rfl rfl ?_
                                refine zw_push zr_142_4 ?_
                                refine zw_48k (c := 70) (len := 826) zr_142_7 rfl rfl (by omega) (by omega) (show (823 : Int).toNat = 823 by omega) hg1 ?_
                                refine zw_R zr_142_8 (by decide) zm_142 (v := (0, g1)) rfl ?_
                                rw [← hQ1]
                                show zW E (d) 146 95 [(2, 69), (0, a0), (0, a1), (0, a2), (0, a3), (0, a4), (0, x3), (9, 0)] [(0, g1), (0, 6), (0, 90)] m0 Q
                                refine zw_18 zr_146_95 (by omega) ?_
                                refine zw_16 zr_146_96 (by omega) ?_
                                refine zw_10 (L' := [(2, 69), (0, a0), (0, a1), (0, a2), (0, a3), (0, a4), (0, x3), (0, (90 + (6 * g1)))]) zr_146_97 (Nat.le_of_ble_eq_true rfl) rfl ?_
                                refine zw_7 zr_146_99 rfl ?_
                                refine zw_46r (s := 70) zr_146_100 rfl rfl rfl rfl ?_
                                refine zw_4 zr_146_103 rfl ?_
                                refine zw_push zr_146_105 ?_
                                refine zw_16 zr_146_106 (by omega) ?_
                                refine zw_3 zr_146_107 rfl ?_
                                refine zw_49 (c := 70) (len := 826) zr_146_108 rfl rfl (by omega) (by omega) ?_
                                intro m64 em64
                                have hIm64 : zInv m64 := by rw [em64]; exact iu_70_m0 hI0 (by omega) (by omega)
                                have hFm64 : zFr W_146 m0 m64 := by rw [em64]; exact hF0.any rfl
                                have km64_70_822 : m64 70 822 = g0 := by rw [em64, zUp_ne (by omega)]; exact hg0
                                have km64_70_823 : m64 70 823 = g1 := by rw [em64, zUp_ne (by omega)]; exact hg1
                                have fm64_70 : m64 70 = zPt F70 ((((90 + (6 * g1)) + 0)).toNat) a0 := by rw [em64]; exact (zUp_ff (m := m0)).trans (congrArg (fun q => zPt q ((((90 + (6 * g1)) + 0)).toNat) a0) hG70)
                                clear em64
                                refine zw_7 zr_146_109 rfl ?_
                                refine zw_46r (s := 70) zr_146_110 rfl rfl rfl rfl ?_
                                refine zw_4 zr_146_113 rfl ?_
                                refine zw_push zr_146_115 ?_
                                refine zw_16 zr_146_116 (by omega) ?_
                                refine zw_3 zr_146_117 rfl ?_
                                refine zw_49 (c := 70) (len := 826) zr_146_118 rfl rfl (by omega) (by omega) ?_
                                intro m65 em65
                                have hIm65 : zInv m65 := by rw [em65]; exact iu_70_m1 hIm64 (by omega) (by omega)
                                have hFm65 : zFr W_146 m0 m65 := by rw [em65]; exact hFm64.any rfl
                                have km65_70_822 : m65 70 822 = g0 := by rw [em65, zUp_ne (by omega)]; exact km64_70_822
                                have km65_70_823 : m65 70 823 = g1 := by rw [em65, zUp_ne (by omega)]; exact km64_70_823
                                have fm65_70 : m65 70 = zPt (zPt F70 ((((90 + (6 * g1)) + 0)).toNat) a0) ((((90 + (6 * g1)) + 1)).toNat) a1 := by rw [em65]; exact (zUp_ff (m := m64)).trans (congrArg (fun q => zPt q ((((90 + (6 * g1)) + 1)).toNat) a1) fm64_70)
                                clear em65
                                refine zw_7 zr_146_119 rfl ?_
                                refine zw_46r (s := 70) zr_146_120 rfl rfl rfl rfl ?_
                                refine zw_4 zr_146_123 rfl ?_
                                refine zw_push zr_146_125 ?_
                                refine zw_16 zr_146_126 (by omega) ?_
                                refine zw_3 zr_146_127 rfl ?_
                                refine zw_49 (c := 70) (len := 826) zr_146_128 rfl rfl (by omega) (by omega) ?_
                                intro m66 em66
                                have hIm66 : zInv m66 := by rw [em66]; exact iu_70_m2 hIm65 (by omega) (by omega)
                                have hFm66 : zFr W_146 m0 m66 := by rw [em66]; exact hFm65.any rfl
                                have km66_70_822 : m66 70 822 = g0 := by rw [em66, zUp_ne (by omega)]; exact km65_70_822
                                have km66_70_823 : m66 70 823 = g1 := by rw [em66, zUp_ne (by omega)]; exact km65_70_823
                                have fm66_70 : m66 70 = zPt (zPt (zPt F70 ((((90 + (6 * g1)) + 0)).toNat) a0) ((((90 + (6 * g1)) + 1)).toNat) a1) ((((90 + (6 * g1)) + 2)).toNat) a2 := by rw [em66]; exact (zUp_ff (m := m65)).trans (congrArg (fun q => zPt q ((((90 + (6 * g1)) + 2)).toNat) a2) fm65_70)
                                clear em66
                                refine zw_7 zr_146_129 rfl ?_
                                refine zw_46r (s := 70) zr_146_130 rfl rfl rfl rfl ?_
                                refine zw_4 zr_146_133 rfl ?_
                                refine zw_push zr_146_135 ?_
                                refine zw_16 zr_146_136 (by omega) ?_
                                refine zw_4 zr_146_137 rfl ?_
                                refine zw_49 (c := 70) (len := 826) zr_146_139 rfl rfl (by omega) (by omega) ?_
                                intro m67 em67
                                have hIm67 : zInv m67 := by rw [em67]; exact iu_70_m3 hIm66 (by omega) (by omega)
                                have hFm67 : zFr W_146 m0 m67 := by rw [em67]; exact hFm66.any rfl
                                have km67_70_822 : m67 70 822 = g0 := by rw [em67, zUp_ne (by omega)]; exact km66_70_822
                                have km67_70_823 : m67 70 823 = g1 := by rw [em67, zUp_ne (by omega)]; exact km66_70_823
                                have fm67_70 : m67 70 = zPt (zPt (zPt (zPt F70 ((((90 + (6 * g1)) + 0)).toNat) a0) ((((90 + (6 * g1)) + 1)).toNat) a1) ((((90 + (6 * g1)) + 2)).toNat) a2) ((((90 + (6 * g1)) + 3)).toNat) a3 := by rw [em67]; exact (zUp_ff (m := m66)).trans (congrArg (fun q => zPt q ((((90 + (6 * g1)) + 3)).toNat) a3) fm66_70)
                                clear em67
                                refine zw_7 zr_146_140 rfl ?_
                                refine zw_46r (s := 70) zr_146_141 rfl rfl rfl rfl ?_
                                refine zw_4 zr_146_144 rfl ?_
                                refine zw_push zr_146_146 ?_
                                refine zw_16 zr_146_147 (by omega) ?_
                                refine zw_4 zr_146_148 rfl ?_
                                refine zw_40_1 zr_146_150 ?_ ?_
                                · intro h68
                                  refine zw_push zr_146_157 ?_
                                  refine zw_49 (c := 70) (len := 826) zr_146_158 rfl rfl (by omega) (by omega) ?_
                                  intro m69 em69
                                  have hIm69 : zInv m69 := by rw [em69]; exact iu_70_m4 hIm67 (by omega) (by omega)
                                  have hFm69 : zFr W_146 m0 m69 := by rw [em69]; exact hFm67.any rfl
                                  have km69_70_822 : m69 70 822 = g0 := by rw [em69, zUp_ne (by omega)]; exact km67_70_822
                                  have km69_70_823 : m69 70 823 = g1 := by rw [em69, zUp_ne (by omega)]; exact km67_70_823
                                  have fm69_70 : m69 70 = zPt (zPt (zPt (zPt (zPt F70 ((((90 + (6 * g1)) + 0)).toNat) a0) ((((90 + (6 * g1)) + 1)).toNat) a1) ((((90 + (6 * g1)) + 2)).toNat) a2) ((((90 + (6 * g1)) + 3)).toNat) a3) ((((90 + (6 * g1)) + 4)).toNat) 0 := by rw [em69]; exact (zUp_ff (m := m67)).trans (congrArg (fun q => zPt q ((((90 + (6 * g1)) + 4)).toNat) 0) fm67_70)
                                  clear em69
                                  refine zw_7 zr_146_159 rfl ?_
                                  refine zw_46r (s := 70) zr_146_160 rfl rfl rfl rfl ?_
                                  refine zw_4 zr_146_163 rfl ?_
                                  refine zw_push zr_146_165 ?_
                                  refine zw_16 zr_146_166 (by omega) ?_
                                  refine zw_push zr_146_167 ?_
                                  refine zw_49 (c := 70) (len := 826) zr_146_168 rfl rfl (by omega) (by omega) ?_
                                  intro m70 em70
                                  have hIm70 : zInv m70 := by rw [em70]; exact iu_70_m5 hIm69 (by omega) (by omega)
                                  have hFm70 : zFr W_146 m0 m70 := by rw [em70]; exact hFm69.any rfl
                                  have km70_70_822 : m70 70 822 = g0 := by rw [em70, zUp_ne (by omega)]; exact km69_70_822
                                  have km70_70_823 : m70 70 823 = g1 := by rw [em70, zUp_ne (by omega)]; exact km69_70_823
                                  have fm70_70 : m70 70 = zPt (zPt (zPt (zPt (zPt (zPt F70 ((((90 + (6 * g1)) + 0)).toNat) a0) ((((90 + (6 * g1)) + 1)).toNat) a1) ((((90 + (6 * g1)) + 2)).toNat) a2) ((((90 + (6 * g1)) + 3)).toNat) a3) ((((90 + (6 * g1)) + 4)).toNat) 0) ((((90 + (6 * g1)) + 5)).toNat) 0 := by rw [em70]; exact (zUp_ff (m := m69)).trans (congrArg (fun q => zPt q ((((90 + (6 * g1)) + 5)).toNat) 0) fm69_70)
                                  clear em70
                                  refine zw_7 zr_146_169 rfl ?_
                                  refine zw_46r (s := 70) zr_146_170 rfl rfl rfl rfl ?_
                                  refine zw_push zr_146_173 ?_
                                  refine zw_45 zr_146_176 ⟨rfl, rfl⟩ ?_
                                  refine zw_48k (c := 70) (len := 826) zr_146_177 rfl rfl (by omega) (by omega) (show (823 : Int).toNat = 823 by omega) km70_70_823 ?_
                                  refine zw_push zr_146_178 ?_
                                  refine zw_16 zr_146_179 (by omega) ?_
                                  refine zw_49 (c := 70) (len := 826) zr_146_180 rfl rfl (by omega) (by omega) ?_
                                  intro m71 em71
                                  have hIm71 : zInv m71 := by rw [em71]; exact iu_70_meetings hIm70 (by omega) (by omega)
                                  have hFm71 : zFr W_146 m0 m71 := by rw [em71]; exact hFm70.any rfl
                                  have km71_70_822 : m71 70 822 = g0 := by rw [em71, zUp_ne (by omega)]; exact km70_70_822
                                  have km71_70_823 : m71 70 823 = (g1 + 1) := by rw [em71, show (823 : Int).toNat = 823 by omega]; exact zUp_eq _ _ _ _
                                  have fm71_70 : m71 70 = zPt (zPt (zPt (zPt (zPt (zPt (zPt F70 ((((90 + (6 * g1)) + 0)).toNat) a0) ((((90 + (6 * g1)) + 1)).toNat) a1) ((((90 + (6 * g1)) + 2)).toNat) a2) ((((90 + (6 * g1)) + 3)).toNat) a3) ((((90 + (6 * g1)) + 4)).toNat) 0) ((((90 + (6 * g1)) + 5)).toNat) 0) 823 ((g1 + 1)) := by rw [em71]; exact (zUp_ff (m := m70)).trans (congrArg (fun q => zPt q 823 ((g1 + 1))) fm70_70)
                                  clear em71
                                  refine zw_7 zr_146_181 rfl ?_
                                  refine zw_C zr_146_182 (Or.inl rfl) zm_142 rfl rfl ⟨Nat.le_of_ble_eq_true rfl, Nat.le_of_ble_eq_true rfl, Nat.le_of_ble_eq_true rfl, rfl, by decide⟩ (by omega) (P := (fun v m' => zW E (d) 146 185 [(2, 69), (0, a0), (0, a1), (0, a2), (0, a3), (0, a4), (0, x3), (0, (90 + (6 * g1)))] (if v.1 = 9 then [] else v :: []) m' Q)) ?_ (fun _ _ h => h)
                                  generalize hQ1 : (fun v m' => zW E (d) 146 185 [(2, 69), (0, a0), (0, a1), (0, a2), (0, a3), (0, a4), (0, x3), (0, (90 + (6 * g1)))] (if v.1 = 9 then [] else v :: []) m' Q) = Q1
                                  show zW E (d - 1) 142 0 [(2, 69)] [] m71 Q1
                                  refine zw_7 zr_142_0 rfl ?_
                                  refine zw_46r (s := 70) zr_142_1 rfl rfl rfl rfl ?_
                                  refine zw_push zr_142_4 ?_
                                  refine zw_48k (c := 70) (len := 826) zr_142_7 rfl rfl (by omega) (by omega) (show (823 : Int).toNat = 823 by omega) km71_70_823 ?_
                                  refine zw_R zr_142_8 (by decide) zm_142 (v := (0, (g1 + 1))) rfl ?_
                                  rw [← hQ1]
                                  show zW E (d) 146 185 [(2, 69), (0, a0), (0, a1), (0, a2), (0, a3), (0, a4), (0, x3), (0, (90 + (6 * g1)))] [(0, (g1 + 1))] m71 Q
                                  refine zw_push zr_146_185 ?_
                                  refine zw_17 zr_146_186 (by omega) ?_
                                  refine zw_R zr_146_187 (by decide) zm_146 (v := (0, ((g1 + 1) - 1))) rfl ?_
                                  rw [← hQ]; exact ⟨_, rfl, by omega, by omega, hIm71, hFm71, by omega, by rw [fm71_70]; first | exact (if_neg (by omega)).symm | exact (if_pos (by omega)).symm | (rw [show a4 = 1 by omega]; first | exact (if_neg (by omega)).symm | exact (if_pos (by omega)).symm) | (rw [show a4 = 0 by omega]; first | exact (if_neg (by omega)).symm | exact (if_pos (by omega)).symm)⟩
                                · intro h74
                                  refine zw_push zr_146_153 ?_
                                  refine zw_42 zr_146_154 ?_
                                  refine zw_49 (c := 70) (len := 826) zr_146_158 rfl rfl (by omega) (by omega) ?_
                                  intro m75 em75
                                  have hIm75 : zInv m75 := by rw [em75]; exact iu_70_m4 hIm67 (by omega) (by omega)
                                  have hFm75 : zFr W_146 m0 m75 := by rw [em75]; exact hFm67.any rfl
                                  have km75_70_822 : m75 70 822 = g0 := by rw [em75, zUp_ne (by omega)]; exact km67_70_822
                                  have km75_70_823 : m75 70 823 = g1 := by rw [em75, zUp_ne (by omega)]; exact km67_70_823
                                  have fm75_70 : m75 70 = zPt (zPt (zPt (zPt (zPt F70 ((((90 + (6 * g1)) + 0)).toNat) a0) ((((90 + (6 * g1)) + 1)).toNat) a1) ((((90 + (6 * g1)) + 2)).toNat) a2) ((((90 + (6 * g1)) + 3)).toNat) a3) ((((90 + (6 * g1)) + 4)).toNat) 1 := by rw [em75]; exact (zUp_ff (m := m67)).trans (congrArg (fun q => zPt q ((((90 + (6 * g1)) + 4)).toNat) 1) fm67_70)
                                  clear em75
                                  refine zw_7 zr_146_159 rfl ?_
                                  refine zw_46r (s := 70) zr_146_160 rfl rfl rfl rfl ?_
                                  refine zw_4 zr_146_163 rfl ?_
                                  refine zw_push zr_146_165 ?_
                                  refine zw_16 zr_146_166 (by omega) ?_
                                  refine zw_push zr_146_167 ?_
                                  refine zw_49 (c := 70) (len := 826) zr_146_168 rfl rfl (by omega) (by omega) ?_
                                  intro m76 em76
                                  have hIm76 : zInv m76 := by rw [em76]; exact iu_70_m5 hIm75 (by omega) (by omega)
                                  have hFm76 : zFr W_146 m0 m76 := by rw [em76]; exact hFm75.any rfl
                                  have km76_70_822 : m76 70 822 = g0 := by rw [em76, zUp_ne (by omega)]; exact km75_70_822
                                  have km76_70_823 : m76 70 823 = g1 := by rw [em76, zUp_ne (by omega)]; exact km75_70_823
                                  have fm76_70 : m76 70 = zPt (zPt (zPt (zPt (zPt (zPt F70 ((((90 + (6 * g1)) + 0)).toNat) a0) ((((90 + (6 * g1)) + 1)).toNat) a1) ((((90 + (6 * g1)) + 2)).toNat) a2) ((((90 + (6 * g1)) + 3)).toNat) a3) ((((90 + (6 * g1)) + 4)).toNat) 1) ((((90 + (6 * g1)) + 5)).toNat) 0 := by rw [em76]; exact (zUp_ff (m := m75)).trans (congrArg (fun q => zPt q ((((90 + (6 * g1)) + 5)).toNat) 0) fm75_70)
                                  clear em76
                                  refine zw_7 zr_146_169 rfl ?_
                                  refine zw_46r (s := 70) zr_146_170 rfl rfl rfl rfl ?_
                                  refine zw_push zr_146_173 ?_
                                  refine zw_45 zr_146_176 ⟨rfl, rfl⟩ ?_
                                  refine zw_48k (c := 70) (len := 826) zr_146_177 rfl rfl (by omega) (by omega) (show (823 : Int).toNat = 823 by omega) km76_70_823 ?_
                                  refine zw_push zr_146_178 ?_
                                  refine zw_16 zr_146_179 (by omega) ?_
                                  refine zw_49 (c := 70) (len := 826) zr_146_180 rfl rfl (by omega) (by omega) ?_
                                  intro m77 em77
                                  have hIm77 : zInv m77 := by rw [em77]; exact iu_70_meetings hIm76 (by omega) (by omega)
                                  have hFm77 : zFr W_146 m0 m77 := by rw [em77]; exact hFm76.any rfl
                                  have km77_70_822 : m77 70 822 = g0 := by rw [em77, zUp_ne (by omega)]; exact km76_70_822
                                  have km77_70_823 : m77 70 823 = (g1 + 1) := by rw [em77, show (823 : Int).toNat = 823 by omega]; exact zUp_eq _ _ _ _
                                  have fm77_70 : m77 70 = zPt (zPt (zPt (zPt (zPt (zPt (zPt F70 ((((90 + (6 * g1)) + 0)).toNat) a0) ((((90 + (6 * g1)) + 1)).toNat) a1) ((((90 + (6 * g1)) + 2)).toNat) a2) ((((90 + (6 * g1)) + 3)).toNat) a3) ((((90 + (6 * g1)) + 4)).toNat) 1) ((((90 + (6 * g1)) + 5)).toNat) 0) 823 ((g1 + 1)) := by rw [em77]; exact (zUp_ff (m := m76)).trans (congrArg (fun q => zPt q 823 ((g1 + 1))) fm76_70)
                                  clear em77
                                  refine zw_7 zr_146_181 rfl ?_
                                  refine zw_C zr_146_182 (Or.inl rfl) zm_142 rfl rfl ⟨Nat.le_of_ble_eq_true rfl, Nat.le_of_ble_eq_true rfl, Nat.le_of_ble_eq_true rfl, rfl, by decide⟩ (by omega) (P := (fun v m' => zW E (d) 146 185 [(2, 69), (0, a0), (0, a1), (0, a2), (0, a3), (0, a4), (0, x3), (0, (90 + (6 * g1)))] (if v.1 = 9 then [] else v :: []) m' Q)) ?_ (fun _ _ h => h)
                                  generalize hQ1 : (fun v m' => zW E (d) 146 185 [(2, 69), (0, a0), (0, a1), (0, a2), (0, a3), (0, a4), (0, x3), (0, (90 + (6 * g1)))] (if v.1 = 9 then [] else v :: []) m' Q) = Q1
                                  show zW E (d - 1) 142 0 [(2, 69)] [] m77 Q1
                                  refine zw_7 zr_142_0 rfl ?_
                                  refine zw_46r (s := 70) zr_142_1 rfl rfl rfl rfl ?_
                                  refine zw_push zr_142_4 ?_
                                  refine zw_48k (c := 70) (len := 826) zr_142_7 rfl rfl (by omega) (by omega) (show (823 : Int).toNat = 823 by omega) km77_70_823 ?_
                                  refine zw_R zr_142_8 (by decide) zm_142 (v := (0, (g1 + 1))) rfl ?_
                                  rw [← hQ1]
                                  show zW E (d) 146 185 [(2, 69), (0, a0), (0, a1), (0, a2), (0, a3), (0, a4), (0, x3), (0, (90 + (6 * g1)))] [(0, (g1 + 1))] m77 Q
                                  refine zw_push zr_146_185 ?_
                                  refine zw_17 zr_146_186 (by omega) ?_
                                  refine zw_R zr_146_187 (by decide) zm_146 (v := (0, ((g1 + 1) - 1))) rfl ?_
                                  rw [← hQ]; exact ⟨_, rfl, by omega, by omega, hIm77, hFm77, by omega, by rw [fm77_70]; first | exact (if_neg (by omega)).symm | exact (if_pos (by omega)).symm | (rw [show a4 = 1 by omega]; first | exact (if_neg (by omega)).symm | exact (if_pos (by omega)).symm) | (rw [show a4 = 0 by omega]; first | exact (if_neg (by omega)).symm | exact (if_pos (by omega)).symm)⟩
                              · intro h80
                                refine zw_push zr_146_84 ?_
                                refine zw_R zr_146_86 (by decide) zm_146 (v := (0, (-4))) rfl ?_
                                rw [← hQ]; exact ⟨_, rfl, by omega, by omega, hI0, hF0, by omega, by rw [hG70]; first | exact (if_neg (by omega)).symm | exact (if_pos (by omega)).symm | (rw [show a4 = 1 by omega]; first | exact (if_neg (by omega)).symm | exact (if_pos (by omega)).symm) | (rw [show a4 = 0 by omega]; first | exact (if_neg (by omega)).symm | exact (if_pos (by omega)).symm)⟩
                            · intro h83; omega
  · intro h84
    refine zw_push zr_146_7 ?_
    refine zw_42 zr_146_8 ?_
    refine zw_10 (L' := [(2, 69), (0, a0), (0, a1), (0, a2), (0, a3), (0, a4), (0, 0), (9, 0)]) zr_146_22 (Nat.le_of_ble_eq_true rfl) rfl ?_
    refine zw_3 zr_146_24 rfl ?_
    refine zw_36 zr_146_25 ?_
    refine zw_4 zr_146_26 rfl ?_
    refine zw_36 zr_146_28 ?_
    refine zw_push zr_146_29 ?_
    refine zw_C zr_146_32 (Or.inr rfl) zm_140 rfl rfl ⟨Nat.le_of_ble_eq_true rfl, Nat.le_of_ble_eq_true rfl, Nat.le_of_ble_eq_true rfl, rfl, by decide⟩ (by omega) (P := (fun v m' => zW E (d) 146 35 [(2, 69), (0, a0), (0, a1), (0, a2), (0, a3), (0, a4), (0, 0), (9, 0)] (if v.1 = 9 then [] else v :: []) m' Q)) ?_ (fun _ _ h => h)
    generalize hQ1 : (fun v m' => zW E (d) 146 35 [(2, 69), (0, a0), (0, a1), (0, a2), (0, a3), (0, a4), (0, 0), (9, 0)] (if v.1 = 9 then [] else v :: []) m' Q) = Q1
    show zW E (d - 1) 140 0 [(1, a0), (9, 0), (1, 0), (9, 0), (1, 99), (9, 0)] [] m0 Q1
    refine zw_5 zr_140_0 rfl ?_
    refine zw_5 zr_140_1 rfl ?_
    refine zw_39_0 zr_140_2 zr_140_3 ?_ ?_
    · intro h85
      refine zw_push zr_140_17 ?_
      refine zw_R zr_140_18 (by decide) zm_140 (v := (0, 0)) (zRetB (by omega)) ?_
      rw [← hQ1]
      show zW E (d) 146 35 [(2, 69), (0, a0), (0, a1), (0, a2), (0, a3), (0, a4), (0, 0), (9, 0)] [(0, 0)] m0 Q
      refine zw_40_1 zr_146_35 ?_ ?_
      · intro h86
        refine zw_push zr_146_72 ?_
        refine zw_R zr_146_74 (by decide) zm_146 (v := (0, (-2))) rfl ?_
        rw [← hQ]; exact ⟨_, rfl, by omega, by omega, hI0, hF0, by omega, by rw [hG70]; first | exact (if_neg (by omega)).symm | exact (if_pos (by omega)).symm | (rw [show a4 = 1 by omega]; first | exact (if_neg (by omega)).symm | exact (if_pos (by omega)).symm) | (rw [show a4 = 0 by omega]; first | exact (if_neg (by omega)).symm | exact (if_pos (by omega)).symm)⟩
      · intro h89; omega
    · intro h90
      refine zw_5 zr_140_6 rfl ?_
      refine zw_6 zr_140_7 rfl ?_
      refine zw_39_2 zr_140_9 zr_140_10 ?_ ?_
      · intro h91
        refine zw_push zr_140_17 ?_
        refine zw_R zr_140_18 (by decide) zm_140 (v := (0, 0)) (zRetB (by omega)) ?_
        rw [← hQ1]
        show zW E (d) 146 35 [(2, 69), (0, a0), (0, a1), (0, a2), (0, a3), (0, a4), (0, 0), (9, 0)] [(0, 0)] m0 Q
        refine zw_40_1 zr_146_35 ?_ ?_
        · intro h92
          refine zw_push zr_146_72 ?_
          refine zw_R zr_146_74 (by decide) zm_146 (v := (0, (-2))) rfl ?_
          rw [← hQ]; exact ⟨_, rfl, by omega, by omega, hI0, hF0, by omega, by rw [hG70]; first | exact (if_neg (by omega)).symm | exact (if_pos (by omega)).symm | (rw [show a4 = 1 by omega]; first | exact (if_neg (by omega)).symm | exact (if_pos (by omega)).symm) | (rw [show a4 = 0 by omega]; first | exact (if_neg (by omega)).symm | exact (if_pos (by omega)).symm)⟩
        · intro h95; omega
      · intro h96
        refine zw_push zr_140_13 ?_
        refine zw_42 zr_140_14 ?_
        refine zw_R zr_140_18 (by decide) zm_140 (v := (0, 1)) (zRetB (by omega)) ?_
        rw [← hQ1]
        show zW E (d) 146 35 [(2, 69), (0, a0), (0, a1), (0, a2), (0, a3), (0, a4), (0, 0), (9, 0)] [(0, 1)] m0 Q
        refine zw_40_1 zr_146_35 ?_ ?_
        · intro h97; omega
        · intro h98
          refine zw_7 zr_146_38 rfl ?_
          refine zw_3 zr_146_39 rfl ?_
          refine zw_C zr_146_40 (Or.inl rfl) zm_143 rfl rfl ⟨Nat.le_of_ble_eq_true rfl, Nat.le_of_ble_eq_true rfl, Nat.le_of_ble_eq_true rfl, rfl, by decide⟩ (by omega) (P := (fun v m' => zW E (d) 146 43 [(2, 69), (0, a0), (0, a1), (0, a2), (0, a3), (0, a4), (0, 0), (9, 0)] (if v.1 = 9 then [] else v :: []) m' Q)) ?_ (fun _ _ h => h)
          generalize hQ1 : (fun v m' => zW E (d) 146 43 [(2, 69), (0, a0), (0, a1), (0, a2), (0, a3), (0, a4), (0, 0), (9, 0)] (if v.1 = 9 then [] else v :: []) m' Q) = Q1
          show zW E (d - 1) 143 0 [(2, 69), (0, a1)] [] m0 Q1
          refine zw_3 zr_143_0 rfl ?_
          refine zw_36 zr_143_1 ?_
          refine zw_push zr_143_2 ?_
          refine zw_7 zr_143_3 rfl ?_
          refine zw_C zr_143_4 (Or.inl rfl) zm_141 rfl rfl ⟨Nat.le_of_ble_eq_true rfl, Nat.le_of_ble_eq_true rfl, Nat.le_of_ble_eq_true rfl, rfl, by decide⟩ (by omega) (P := (fun v m' => zW E (d - 1) 143 7 [(2, 69), (0, a1)] (if v.1 = 9 then [(1, 0), (1, a1)] else v :: [(1, 0), (1, a1)]) m' Q1)) ?_ (fun _ _ h => h)
          generalize hQ2 : (fun v m' => zW E (d - 1) 143 7 [(2, 69), (0, a1)] (if v.1 = 9 then [(1, 0), (1, a1)] else v :: [(1, 0), (1, a1)]) m' Q1) = Q2
          show zW E (d - 1 - 1) 141 0 [(2, 69)] [] m0 Q2
          refine zw_7 zr_141_0 rfl ?_
          refine zw_46r (s := 70) zr_141_1 rfl rfl rfl rfl ?_
          refine zw_push zr_141_4 ?_
          refine zw_48k (c := 70) (len := 826) zr_141_7 rfl rfl (by omega) (by omega) (show (822 : Int).toNat = 822 by omega) hg0 ?_
          refine zw_R zr_141_8 (by decide) zm_141 (v := (0, g0)) rfl ?_
          rw [← hQ2]
          show zW E (d - 1) 143 7 [(2, 69), (0, a1)] [(0, g0), (1, 0), (1, a1)] m0 Q1
          refine zw_push zr_143_7 ?_
          refine zw_17 zr_143_8 (by omega) ?_
          refine zw_36 zr_143_9 ?_
          refine zw_C zr_143_10 (Or.inr rfl) zm_140 rfl rfl ⟨Nat.le_of_ble_eq_true rfl, Nat.le_of_ble_eq_true rfl, Nat.le_of_ble_eq_true rfl, rfl, by decide⟩ (by omega) (P := (fun v m' => zW E (d - 1) 143 13 [(2, 69), (0, a1)] (if v.1 = 9 then [] else v :: []) m' Q1)) ?_ (fun _ _ h => h)
          generalize hQ2 : (fun v m' => zW E (d - 1) 143 13 [(2, 69), (0, a1)] (if v.1 = 9 then [] else v :: []) m' Q1) = Q2
          show zW E (d - 1 - 1) 140 0 [(1, a1), (9, 0), (1, 0), (9, 0), (1, (g0 - 1)), (9, 0)] [] m0 Q2
          refine zw_5 zr_140_0 rfl ?_
          refine zw_5 zr_140_1 rfl ?_
          refine zw_39_0 zr_140_2 zr_140_3 ?_ ?_
          · intro h99
            refine zw_push zr_140_17 ?_
            refine zw_R zr_140_18 (by decide) zm_140 (v := (0, 0)) (zRetB (by omega)) ?_
            rw [← hQ2]
            show zW E (d - 1) 143 13 [(2, 69), (0, a1)] [(0, 0)] m0 Q1
            refine zw_R zr_143_13 (by decide) zm_143 (v := (0, 0)) (zRetB (by omega)) ?_
            rw [← hQ1]
            show zW E (d) 146 43 [(2, 69), (0, a0), (0, a1), (0, a2), (0, a3), (0, a4), (0, 0), (9, 0)] [(0, 0)] m0 Q
            refine zw_40_1 zr_146_43 ?_ ?_
            · intro h100
              refine zw_push zr_146_72 ?_
              refine zw_R zr_146_74 (by decide) zm_146 (v := (0, (-2))) rfl ?_
              rw [← hQ]; exact ⟨_, rfl, by omega, by omega, hI0, hF0, by omega, by rw [hG70]; first | exact (if_neg (by omega)).symm | exact (if_pos (by omega)).symm | (rw [show a4 = 1 by omega]; first | exact (if_neg (by omega)).symm | exact (if_pos (by omega)).symm) | (rw [show a4 = 0 by omega]; first | exact (if_neg (by omega)).symm | exact (if_pos (by omega)).symm)⟩
            · intro h103; omega
          · intro h104
            refine zw_5 zr_140_6 rfl ?_
            refine zw_6 zr_140_7 rfl ?_
            refine zw_39_2 zr_140_9 zr_140_10 ?_ ?_
            · intro h105
              refine zw_push zr_140_17 ?_
              refine zw_R zr_140_18 (by decide) zm_140 (v := (0, 0)) (zRetB (by omega)) ?_
              rw [← hQ2]
              show zW E (d - 1) 143 13 [(2, 69), (0, a1)] [(0, 0)] m0 Q1
              refine zw_R zr_143_13 (by decide) zm_143 (v := (0, 0)) (zRetB (by omega)) ?_
              rw [← hQ1]
              show zW E (d) 146 43 [(2, 69), (0, a0), (0, a1), (0, a2), (0, a3), (0, a4), (0, 0), (9, 0)] [(0, 0)] m0 Q
              refine zw_40_1 zr_146_43 ?_ ?_
              · intro h106
                refine zw_push zr_146_72 ?_
                refine zw_R zr_146_74 (by decide) zm_146 (v := (0, (-2))) rfl ?_
                rw [← hQ]; exact ⟨_, rfl, by omega, by omega, hI0, hF0, by omega, by rw [hG70]; first | exact (if_neg (by omega)).symm | exact (if_pos (by omega)).symm | (rw [show a4 = 1 by omega]; first | exact (if_neg (by omega)).symm | exact (if_pos (by omega)).symm) | (rw [show a4 = 0 by omega]; first | exact (if_neg (by omega)).symm | exact (if_pos (by omega)).symm)⟩
              · intro h109; omega
            · intro h110
              refine zw_push zr_140_13 ?_
              refine zw_42 zr_140_14 ?_
              refine zw_R zr_140_18 (by decide) zm_140 (v := (0, 1)) (zRetB (by omega)) ?_
              rw [← hQ2]
              show zW E (d - 1) 143 13 [(2, 69), (0, a1)] [(0, 1)] m0 Q1
              refine zw_R zr_143_13 (by decide) zm_143 (v := (0, 1)) (zRetB (by omega)) ?_
              rw [← hQ1]
              show zW E (d) 146 43 [(2, 69), (0, a0), (0, a1), (0, a2), (0, a3), (0, a4), (0, 0), (9, 0)] [(0, 1)] m0 Q
              refine zw_40_1 zr_146_43 ?_ ?_
              · intro h111; omega
              · intro h112
                refine zw_7 zr_146_46 rfl ?_
                refine zw_3 zr_146_47 rfl ?_
                refine zw_C zr_146_48 (Or.inl rfl) zm_143 rfl rfl ⟨Nat.le_of_ble_eq_true rfl, Nat.le_of_ble_eq_true rfl, Nat.le_of_ble_eq_true rfl, rfl, by decide⟩ (by omega) (P := (fun v m' => zW E (d) 146 51 [(2, 69), (0, a0), (0, a1), (0, a2), (0, a3), (0, a4), (0, 0), (9, 0)] (if v.1 = 9 then [] else v :: []) m' Q)) ?_ (fun _ _ h => h)
                generalize hQ1 : (fun v m' => zW E (d) 146 51 [(2, 69), (0, a0), (0, a1), (0, a2), (0, a3), (0, a4), (0, 0), (9, 0)] (if v.1 = 9 then [] else v :: []) m' Q) = Q1
                show zW E (d - 1) 143 0 [(2, 69), (0, a2)] [] m0 Q1
                refine zw_3 zr_143_0 rfl ?_
                refine zw_36 zr_143_1 ?_
                refine zw_push zr_143_2 ?_
                refine zw_7 zr_143_3 rfl ?_
                refine zw_C zr_143_4 (Or.inl rfl) zm_141 rfl rfl ⟨Nat.le_of_ble_eq_true rfl, Nat.le_of_ble_eq_true rfl, Nat.le_of_ble_eq_true rfl, rfl, by decide⟩ (by omega) (P := (fun v m' => zW E (d - 1) 143 7 [(2, 69), (0, a2)] (if v.1 = 9 then [(1, 0), (1, a2)] else v :: [(1, 0), (1, a2)]) m' Q1)) ?_ (fun _ _ h => h)
                generalize hQ2 : (fun v m' => zW E (d - 1) 143 7 [(2, 69), (0, a2)] (if v.1 = 9 then [(1, 0), (1, a2)] else v :: [(1, 0), (1, a2)]) m' Q1) = Q2
                show zW E (d - 1 - 1) 141 0 [(2, 69)] [] m0 Q2
                refine zw_7 zr_141_0 rfl ?_
                refine zw_46r (s := 70) zr_141_1 rfl rfl rfl rfl ?_
                refine zw_push zr_141_4 ?_
                refine zw_48k (c := 70) (len := 826) zr_141_7 rfl rfl (by omega) (by omega) (show (822 : Int).toNat = 822 by omega) hg0 ?_
                refine zw_R zr_141_8 (by decide) zm_141 (v := (0, g0)) rfl ?_
                rw [← hQ2]
                show zW E (d - 1) 143 7 [(2, 69), (0, a2)] [(0, g0), (1, 0), (1, a2)] m0 Q1
                refine zw_push zr_143_7 ?_
                refine zw_17 zr_143_8 (by omega) ?_
                refine zw_36 zr_143_9 ?_
                refine zw_C zr_143_10 (Or.inr rfl) zm_140 rfl rfl ⟨Nat.le_of_ble_eq_true rfl, Nat.le_of_ble_eq_true rfl, Nat.le_of_ble_eq_true rfl, rfl, by decide⟩ (by omega) (P := (fun v m' => zW E (d - 1) 143 13 [(2, 69), (0, a2)] (if v.1 = 9 then [] else v :: []) m' Q1)) ?_ (fun _ _ h => h)
                generalize hQ2 : (fun v m' => zW E (d - 1) 143 13 [(2, 69), (0, a2)] (if v.1 = 9 then [] else v :: []) m' Q1) = Q2
                show zW E (d - 1 - 1) 140 0 [(1, a2), (9, 0), (1, 0), (9, 0), (1, (g0 - 1)), (9, 0)] [] m0 Q2
                refine zw_5 zr_140_0 rfl ?_
                refine zw_5 zr_140_1 rfl ?_
                refine zw_39_0 zr_140_2 zr_140_3 ?_ ?_
                · intro h113
                  refine zw_push zr_140_17 ?_
                  refine zw_R zr_140_18 (by decide) zm_140 (v := (0, 0)) (zRetB (by omega)) ?_
                  rw [← hQ2]
                  show zW E (d - 1) 143 13 [(2, 69), (0, a2)] [(0, 0)] m0 Q1
                  refine zw_R zr_143_13 (by decide) zm_143 (v := (0, 0)) (zRetB (by omega)) ?_
                  rw [← hQ1]
                  show zW E (d) 146 51 [(2, 69), (0, a0), (0, a1), (0, a2), (0, a3), (0, a4), (0, 0), (9, 0)] [(0, 0)] m0 Q
                  refine zw_40_1 zr_146_51 ?_ ?_
                  · intro h114
                    refine zw_push zr_146_72 ?_
                    refine zw_R zr_146_74 (by decide) zm_146 (v := (0, (-2))) rfl ?_
                    rw [← hQ]; exact ⟨_, rfl, by omega, by omega, hI0, hF0, by omega, by rw [hG70]; first | exact (if_neg (by omega)).symm | exact (if_pos (by omega)).symm | (rw [show a4 = 1 by omega]; first | exact (if_neg (by omega)).symm | exact (if_pos (by omega)).symm) | (rw [show a4 = 0 by omega]; first | exact (if_neg (by omega)).symm | exact (if_pos (by omega)).symm)⟩
                  · intro h117; omega
                · intro h118
                  refine zw_5 zr_140_6 rfl ?_
                  refine zw_6 zr_140_7 rfl ?_
                  refine zw_39_2 zr_140_9 zr_140_10 ?_ ?_
                  · intro h119
                    refine zw_push zr_140_17 ?_
                    refine zw_R zr_140_18 (by decide) zm_140 (v := (0, 0)) (zRetB (by omega)) ?_
                    rw [← hQ2]
                    show zW E (d - 1) 143 13 [(2, 69), (0, a2)] [(0, 0)] m0 Q1
                    refine zw_R zr_143_13 (by decide) zm_143 (v := (0, 0)) (zRetB (by omega)) ?_
                    rw [← hQ1]
                    show zW E (d) 146 51 [(2, 69), (0, a0), (0, a1), (0, a2), (0, a3), (0, a4), (0, 0), (9, 0)] [(0, 0)] m0 Q
                    refine zw_40_1 zr_146_51 ?_ ?_
                    · intro h120
                      refine zw_push zr_146_72 ?_
                      refine zw_R zr_146_74 (by decide) zm_146 (v := (0, (-2))) rfl ?_
                      rw [← hQ]; exact ⟨_, rfl, by omega, by omega, hI0, hF0, by omega, by rw [hG70]; first | exact (if_neg (by omega)).symm | exact (if_pos (by omega)).symm | (rw [show a4 = 1 by omega]; first | exact (if_neg (by omega)).symm | exact (if_pos (by omega)).symm) | (rw [show a4 = 0 by omega]; first | exact (if_neg (by omega)).symm | exact (if_pos (by omega)).symm)⟩
                    · intro h123; omega
                  · intro h124
                    refine zw_push zr_140_13 ?_
                    refine zw_42 zr_140_14 ?_
                    refine zw_R zr_140_18 (by decide) zm_140 (v := (0, 1)) (zRetB (by omega)) ?_
                    rw [← hQ2]
                    show zW E (d - 1) 143 13 [(2, 69), (0, a2)] [(0, 1)] m0 Q1
                    refine zw_R zr_143_13 (by decide) zm_143 (v := (0, 1)) (zRetB (by omega)) ?_
                    rw [← hQ1]
                    show zW E (d) 146 51 [(2, 69), (0, a0), (0, a1), (0, a2), (0, a3), (0, a4), (0, 0), (9, 0)] [(0, 1)] m0 Q
                    refine zw_40_1 zr_146_51 ?_ ?_
                    · intro h125; omega
                    · intro h126
                      refine zw_3 zr_146_54 rfl ?_
                      refine zw_3 zr_146_55 rfl ?_
                      refine zw_41_1 zr_146_56 ?_ ?_
                      · intro h127
                        refine zw_push zr_146_72 ?_
                        refine zw_R zr_146_74 (by decide) zm_146 (v := (0, (-2))) rfl ?_
                        rw [← hQ]; exact ⟨_, rfl, by omega, by omega, hI0, hF0, by omega, by rw [hG70]; first | exact (if_neg (by omega)).symm | exact (if_pos (by omega)).symm | (rw [show a4 = 1 by omega]; first | exact (if_neg (by omega)).symm | exact (if_pos (by omega)).symm) | (rw [show a4 = 0 by omega]; first | exact (if_neg (by omega)).symm | exact (if_pos (by omega)).symm)⟩
                      · intro h130
                        refine zw_4 zr_146_59 rfl ?_
                        refine zw_36 zr_146_61 ?_
                        refine zw_push zr_146_62 ?_
                        refine zw_push zr_146_63 ?_
                        refine zw_C zr_146_66 (Or.inr rfl) zm_140 rfl rfl ⟨Nat.le_of_ble_eq_true rfl, Nat.le_of_ble_eq_true rfl, Nat.le_of_ble_eq_true rfl, rfl, by decide⟩ (by omega) (P := (fun v m' => zW E (d) 146 69 [(2, 69), (0, a0), (0, a1), (0, a2), (0, a3), (0, a4), (0, 0), (9, 0)] (if v.1 = 9 then [] else v :: []) m' Q)) ?_ (fun _ _ h => h)
                        generalize hQ1 : (fun v m' => zW E (d) 146 69 [(2, 69), (0, a0), (0, a1), (0, a2), (0, a3), (0, a4), (0, 0), (9, 0)] (if v.1 = 9 then [] else v :: []) m' Q) = Q1
                        show zW E (d - 1) 140 0 [(1, a3), (9, 0), (1, 0), (9, 0), (1, 2), (9, 0)] [] m0 Q1
                        refine zw_5 zr_140_0 rfl ?_
                        refine zw_5 zr_140_1 rfl ?_
                        refine zw_39_0 zr_140_2 zr_140_3 ?_ ?_
                        · intro h131
                          refine zw_push zr_140_17 ?_
                          refine zw_R zr_140_18 (by decide) zm_140 (v := (0, 0)) (zRetB (by omega)) ?_
                          rw [← hQ1]
                          show zW E (d) 146 69 [(2, 69), (0, a0), (0, a1), (0, a2), (0, a3), (0, a4), (0, 0), (9, 0)] [(0, 0)] m0 Q
                          refine zw_40_4 zr_146_69 ?_ ?_
                          · intro h132; omega
                          · intro h133
                            refine zw_push zr_146_72 ?_
                            refine zw_R zr_146_74 (by decide) zm_146 (v := (0, (-2))) rfl ?_
                            rw [← hQ]; exact ⟨_, rfl, by omega, by omega, hI0, hF0, by omega, by rw [hG70]; first | exact (if_neg (by omega)).symm | exact (if_pos (by omega)).symm | (rw [show a4 = 1 by omega]; first | exact (if_neg (by omega)).symm | exact (if_pos (by omega)).symm) | (rw [show a4 = 0 by omega]; first | exact (if_neg (by omega)).symm | exact (if_pos (by omega)).symm)⟩
                        · intro h136
                          refine zw_5 zr_140_6 rfl ?_
                          refine zw_6 zr_140_7 rfl ?_
                          refine zw_39_2 zr_140_9 zr_140_10 ?_ ?_
                          · intro h137
                            refine zw_push zr_140_17 ?_
                            refine zw_R zr_140_18 (by decide) zm_140 (v := (0, 0)) (zRetB (by omega)) ?_
                            rw [← hQ1]
                            show zW E (d) 146 69 [(2, 69), (0, a0), (0, a1), (0, a2), (0, a3), (0, a4), (0, 0), (9, 0)] [(0, 0)] m0 Q
                            refine zw_40_4 zr_146_69 ?_ ?_
                            · intro h138; omega
                            · intro h139
                              refine zw_push zr_146_72 ?_
                              refine zw_R zr_146_74 (by decide) zm_146 (v := (0, (-2))) rfl ?_
                              rw [← hQ]; exact ⟨_, rfl, by omega, by omega, hI0, hF0, by omega, by rw [hG70]; first | exact (if_neg (by omega)).symm | exact (if_pos (by omega)).symm | (rw [show a4 = 1 by omega]; first | exact (if_neg (by omega)).symm | exact (if_pos (by omega)).symm) | (rw [show a4 = 0 by omega]; first | exact (if_neg (by omega)).symm | exact (if_pos (by omega)).symm)⟩
                          · intro h142
                            refine zw_push zr_140_13 ?_
                            refine zw_42 zr_140_14 ?_
                            refine zw_R zr_140_18 (by decide) zm_140 (v := (0, 1)) (zRetB (by omega)) ?_
                            rw [← hQ1]
                            show zW E (d) 146 69 [(2, 69), (0, a0), (0, a1), (0, a2), (0, a3), (0, a4), (0, 0), (9, 0)] [(0, 1)] m0 Q
                            refine zw_40_4 zr_146_69 ?_ ?_
                            · intro h143
                              refine zw_7 zr_146_75 rfl ?_
                              refine zw_C zr_146_76 (Or.inl rfl) zm_142 rfl rfl ⟨Nat.le_of_ble_eq_true rfl, Nat.le_of_ble_eq_true rfl, Nat.le_of_ble_eq_true rfl, rfl, by decide⟩ (by omega) (P := (fun v m' => zW E (d) 146 79 [(2, 69), (0, a0), (0, a1), (0, a2), (0, a3), (0, a4), (0, 0), (9, 0)] (if v.1 = 9 then [] else v :: []) m' Q)) ?_ (fun _ _ h => h)
                              generalize hQ1 : (fun v m' => zW E (d) 146 79 [(2, 69), (0, a0), (0, a1), (0, a2), (0, a3), (0, a4), (0, 0), (9, 0)] (if v.1 = 9 then [] else v :: []) m' Q) = Q1
                              show zW E (d - 1) 142 0 [(2, 69)] [] m0 Q1
                              refine zw_7 zr_142_0 rfl ?_
                              refine zw_46r (s := 70) zr_142_1 rfl rfl rfl rfl ?_
                              refine zw_push zr_142_4 ?_
                              refine zw_48k (c := 70) (len := 826) zr_142_7 rfl rfl (by omega) (by omega) (show (823 : Int).toNat = 823 by omega) hg1 ?_
                              refine zw_R zr_142_8 (by decide) zm_142 (v := (0, g1)) rfl ?_
                              rw [← hQ1]
                              show zW E (d) 146 79 [(2, 69), (0, a0), (0, a1), (0, a2), (0, a3), (0, a4), (0, 0), (9, 0)] [(0, g1)] m0 Q
                              refine zw_push zr_146_79 ?_
                              refine zw_41_4 zr_146_81 ?_ ?_
                              · intro h144
                                refine zw_push zr_146_87 ?_
                                refine zw_push zr_146_89 ?_
                                refine zw_7 zr_146_91 rfl ?_
                                refine zw_C zr_146_92 (Or.inl rfl) zm_142 rfl rfl ⟨Nat.le_of_ble_eq_true rfl, Nat.le_of_ble_eq_true rfl, Nat.le_of_ble_eq_true rfl, rfl, by decide⟩ (by omega) (P := (fun v m' => zW E (d) 146 95 [(2, 69), (0, a0), (0, a1), (0, a2), (0, a3), (0, a4), (0, 0), (9, 0)] (if v.1 = 9 then [(0, 6), (0, 90)] else v :: [(0, 6), (0, 90)]) m' Q)) ?_ (fun _ _ h => h)
                                generalize hQ1 : (fun v m' => zW E (d) 146 95 [(2, 69), (0, a0), (0, a1), (0, a2), (0, a3), (0, a4), (0, 0), (9, 0)] (if v.1 = 9 then [(0, 6), (0, 90)] else v :: [(0, 6), (0, 90)]) m' Q) = Q1
                                show zW E (d - 1) 142 0 [(2, 69)] [] m0 Q1
                                refine zw_7 zr_142_0 rfl ?_
                                refine zw_46r (s := 70) zr_142_1 rfl rfl rfl rfl ?_
                                refine zw_push zr_142_4 ?_
                                refine zw_48k (c := 70) (len := 826) zr_142_7 rfl rfl (by omega) (by omega) (show (823 : Int).toNat = 823 by omega) hg1 ?_
                                refine zw_R zr_142_8 (by decide) zm_142 (v := (0, g1)) rfl ?_
                                rw [← hQ1]
                                show zW E (d) 146 95 [(2, 69), (0, a0), (0, a1), (0, a2), (0, a3), (0, a4), (0, 0), (9, 0)] [(0, g1), (0, 6), (0, 90)] m0 Q
                                refine zw_18 zr_146_95 (by omega) ?_
                                refine zw_16 zr_146_96 (by omega) ?_
                                refine zw_10 (L' := [(2, 69), (0, a0), (0, a1), (0, a2), (0, a3), (0, a4), (0, 0), (0, (90 + (6 * g1)))]) zr_146_97 (Nat.le_of_ble_eq_true rfl) rfl ?_
                                refine zw_7 zr_146_99 rfl ?_
                                refine zw_46r (s := 70) zr_146_100 rfl rfl rfl rfl ?_
                                refine zw_4 zr_146_103 rfl ?_
                                refine zw_push zr_146_105 ?_
                                refine zw_16 zr_146_106 (by omega) ?_
                                refine zw_3 zr_146_107 rfl ?_
                                refine zw_49 (c := 70) (len := 826) zr_146_108 rfl rfl (by omega) (by omega) ?_
                                intro m145 em145
                                have hIm145 : zInv m145 := by rw [em145]; exact iu_70_m0 hI0 (by omega) (by omega)
                                have hFm145 : zFr W_146 m0 m145 := by rw [em145]; exact hF0.any rfl
                                have km145_70_822 : m145 70 822 = g0 := by rw [em145, zUp_ne (by omega)]; exact hg0
                                have km145_70_823 : m145 70 823 = g1 := by rw [em145, zUp_ne (by omega)]; exact hg1
                                have km145_70_90 : m145 70 90 = a0 := by rw [em145, show (((90 + (6 * g1)) + 0) : Int).toNat = 90 by omega]; exact zUp_eq _ _ _ _
                                have fm145_70 : m145 70 = zPt F70 ((((90 + (6 * g1)) + 0)).toNat) a0 := by rw [em145]; exact (zUp_ff (m := m0)).trans (congrArg (fun q => zPt q ((((90 + (6 * g1)) + 0)).toNat) a0) hG70)
                                clear em145
                                refine zw_7 zr_146_109 rfl ?_
                                refine zw_46r (s := 70) zr_146_110 rfl rfl rfl rfl ?_
                                refine zw_4 zr_146_113 rfl ?_
                                refine zw_push zr_146_115 ?_
                                refine zw_16 zr_146_116 (by omega) ?_
                                refine zw_3 zr_146_117 rfl ?_
                                refine zw_49 (c := 70) (len := 826) zr_146_118 rfl rfl (by omega) (by omega) ?_
                                intro m146 em146
                                have hIm146 : zInv m146 := by rw [em146]; exact iu_70_m1 hIm145 (by omega) (by omega)
                                have hFm146 : zFr W_146 m0 m146 := by rw [em146]; exact hFm145.any rfl
                                have km146_70_822 : m146 70 822 = g0 := by rw [em146, zUp_ne (by omega)]; exact km145_70_822
                                have km146_70_823 : m146 70 823 = g1 := by rw [em146, zUp_ne (by omega)]; exact km145_70_823
                                have km146_70_90 : m146 70 90 = a0 := by rw [em146, zUp_ne (by omega)]; exact km145_70_90
                                have km146_70_91 : m146 70 91 = a1 := by rw [em146, show (((90 + (6 * g1)) + 1) : Int).toNat = 91 by omega]; exact zUp_eq _ _ _ _
                                have fm146_70 : m146 70 = zPt (zPt F70 ((((90 + (6 * g1)) + 0)).toNat) a0) ((((90 + (6 * g1)) + 1)).toNat) a1 := by rw [em146]; exact (zUp_ff (m := m145)).trans (congrArg (fun q => zPt q ((((90 + (6 * g1)) + 1)).toNat) a1) fm145_70)
                                clear em146
                                refine zw_7 zr_146_119 rfl ?_
                                refine zw_46r (s := 70) zr_146_120 rfl rfl rfl rfl ?_
                                refine zw_4 zr_146_123 rfl ?_
                                refine zw_push zr_146_125 ?_
                                refine zw_16 zr_146_126 (by omega) ?_
                                refine zw_3 zr_146_127 rfl ?_
                                refine zw_49 (c := 70) (len := 826) zr_146_128 rfl rfl (by omega) (by omega) ?_
                                intro m147 em147
                                have hIm147 : zInv m147 := by rw [em147]; exact iu_70_m2 hIm146 (by omega) (by omega)
                                have hFm147 : zFr W_146 m0 m147 := by rw [em147]; exact hFm146.any rfl
                                have km147_70_822 : m147 70 822 = g0 := by rw [em147, zUp_ne (by omega)]; exact km146_70_822
                                have km147_70_823 : m147 70 823 = g1 := by rw [em147, zUp_ne (by omega)]; exact km146_70_823
                                have km147_70_90 : m147 70 90 = a0 := by rw [em147, zUp_ne (by omega)]; exact km146_70_90
                                have km147_70_91 : m147 70 91 = a1 := by rw [em147, zUp_ne (by omega)]; exact km146_70_91
                                have km147_70_92 : m147 70 92 = a2 := by rw [em147, show (((90 + (6 * g1)) + 2) : Int).toNat = 92 by omega]; exact zUp_eq _ _ _ _
                                have fm147_70 : m147 70 = zPt (zPt (zPt F70 ((((90 + (6 * g1)) + 0)).toNat) a0) ((((90 + (6 * g1)) + 1)).toNat) a1) ((((90 + (6 * g1)) + 2)).toNat) a2 := by rw [em147]; exact (zUp_ff (m := m146)).trans (congrArg (fun q => zPt q ((((90 + (6 * g1)) + 2)).toNat) a2) fm146_70)
                                clear em147
                                refine zw_7 zr_146_129 rfl ?_
                                refine zw_46r (s := 70) zr_146_130 rfl rfl rfl rfl ?_
                                refine zw_4 zr_146_133 rfl ?_
                                refine zw_push zr_146_135 ?_
                                refine zw_16 zr_146_136 (by omega) ?_
                                refine zw_4 zr_146_137 rfl ?_
                                refine zw_49 (c := 70) (len := 826) zr_146_139 rfl rfl (by omega) (by omega) ?_
                                intro m148 em148
                                have hIm148 : zInv m148 := by rw [em148]; exact iu_70_m3 hIm147 (by omega) (by omega)
                                have hFm148 : zFr W_146 m0 m148 := by rw [em148]; exact hFm147.any rfl
                                have km148_70_822 : m148 70 822 = g0 := by rw [em148, zUp_ne (by omega)]; exact km147_70_822
                                have km148_70_823 : m148 70 823 = g1 := by rw [em148, zUp_ne (by omega)]; exact km147_70_823
                                have km148_70_90 : m148 70 90 = a0 := by rw [em148, zUp_ne (by omega)]; exact km147_70_90
                                have km148_70_91 : m148 70 91 = a1 := by rw [em148, zUp_ne (by omega)]; exact km147_70_91
                                have km148_70_92 : m148 70 92 = a2 := by rw [em148, zUp_ne (by omega)]; exact km147_70_92
                                have km148_70_93 : m148 70 93 = a3 := by rw [em148, show (((90 + (6 * g1)) + 3) : Int).toNat = 93 by omega]; exact zUp_eq _ _ _ _
                                have fm148_70 : m148 70 = zPt (zPt (zPt (zPt F70 ((((90 + (6 * g1)) + 0)).toNat) a0) ((((90 + (6 * g1)) + 1)).toNat) a1) ((((90 + (6 * g1)) + 2)).toNat) a2) ((((90 + (6 * g1)) + 3)).toNat) a3 := by rw [em148]; exact (zUp_ff (m := m147)).trans (congrArg (fun q => zPt q ((((90 + (6 * g1)) + 3)).toNat) a3) fm147_70)
                                clear em148
                                refine zw_7 zr_146_140 rfl ?_
                                refine zw_46r (s := 70) zr_146_141 rfl rfl rfl rfl ?_
                                refine zw_4 zr_146_144 rfl ?_
                                refine zw_push zr_146_146 ?_
                                refine zw_16 zr_146_147 (by omega) ?_
                                refine zw_4 zr_146_148 rfl ?_
                                refine zw_40_1 zr_146_150 ?_ ?_
                                · intro h149
                                  refine zw_push zr_146_157 ?_
                                  refine zw_49 (c := 70) (len := 826) zr_146_158 rfl rfl (by omega) (by omega) ?_
                                  intro m150 em150
                                  have hIm150 : zInv m150 := by rw [em150]; exact iu_70_m4 hIm148 (by omega) (by omega)
                                  have hFm150 : zFr W_146 m0 m150 := by rw [em150]; exact hFm148.any rfl
                                  have km150_70_822 : m150 70 822 = g0 := by rw [em150, zUp_ne (by omega)]; exact km148_70_822
                                  have km150_70_823 : m150 70 823 = g1 := by rw [em150, zUp_ne (by omega)]; exact km148_70_823
                                  have km150_70_90 : m150 70 90 = a0 := by rw [em150, zUp_ne (by omega)]; exact km148_70_90
                                  have km150_70_91 : m150 70 91 = a1 := by rw [em150, zUp_ne (by omega)]; exact km148_70_91
                                  have km150_70_92 : m150 70 92 = a2 := by rw [em150, zUp_ne (by omega)]; exact km148_70_92
                                  have km150_70_93 : m150 70 93 = a3 := by rw [em150, zUp_ne (by omega)]; exact km148_70_93
                                  have km150_70_94 : m150 70 94 = 0 := by rw [em150, show (((90 + (6 * g1)) + 4) : Int).toNat = 94 by omega]; exact zUp_eq _ _ _ _
                                  have fm150_70 : m150 70 = zPt (zPt (zPt (zPt (zPt F70 ((((90 + (6 * g1)) + 0)).toNat) a0) ((((90 + (6 * g1)) + 1)).toNat) a1) ((((90 + (6 * g1)) + 2)).toNat) a2) ((((90 + (6 * g1)) + 3)).toNat) a3) ((((90 + (6 * g1)) + 4)).toNat) 0 := by rw [em150]; exact (zUp_ff (m := m148)).trans (congrArg (fun q => zPt q ((((90 + (6 * g1)) + 4)).toNat) 0) fm148_70)
                                  clear em150
                                  refine zw_7 zr_146_159 rfl ?_
                                  refine zw_46r (s := 70) zr_146_160 rfl rfl rfl rfl ?_
                                  refine zw_4 zr_146_163 rfl ?_
                                  refine zw_push zr_146_165 ?_
                                  refine zw_16 zr_146_166 (by omega) ?_
                                  refine zw_push zr_146_167 ?_
                                  refine zw_49 (c := 70) (len := 826) zr_146_168 rfl rfl (by omega) (by omega) ?_
                                  intro m151 em151
                                  have hIm151 : zInv m151 := by rw [em151]; exact iu_70_m5 hIm150 (by omega) (by omega)
                                  have hFm151 : zFr W_146 m0 m151 := by rw [em151]; exact hFm150.any rfl
                                  have km151_70_822 : m151 70 822 = g0 := by rw [em151, zUp_ne (by omega)]; exact km150_70_822
                                  have km151_70_823 : m151 70 823 = g1 := by rw [em151, zUp_ne (by omega)]; exact km150_70_823
                                  have km151_70_90 : m151 70 90 = a0 := by rw [em151, zUp_ne (by omega)]; exact km150_70_90
                                  have km151_70_91 : m151 70 91 = a1 := by rw [em151, zUp_ne (by omega)]; exact km150_70_91
                                  have km151_70_92 : m151 70 92 = a2 := by rw [em151, zUp_ne (by omega)]; exact km150_70_92
                                  have km151_70_93 : m151 70 93 = a3 := by rw [em151, zUp_ne (by omega)]; exact km150_70_93
                                  have km151_70_94 : m151 70 94 = 0 := by rw [em151, zUp_ne (by omega)]; exact km150_70_94
                                  have km151_70_95 : m151 70 95 = 0 := by rw [em151, show (((90 + (6 * g1)) + 5) : Int).toNat = 95 by omega]; exact zUp_eq _ _ _ _
                                  have fm151_70 : m151 70 = zPt (zPt (zPt (zPt (zPt (zPt F70 ((((90 + (6 * g1)) + 0)).toNat) a0) ((((90 + (6 * g1)) + 1)).toNat) a1) ((((90 + (6 * g1)) + 2)).toNat) a2) ((((90 + (6 * g1)) + 3)).toNat) a3) ((((90 + (6 * g1)) + 4)).toNat) 0) ((((90 + (6 * g1)) + 5)).toNat) 0 := by rw [em151]; exact (zUp_ff (m := m150)).trans (congrArg (fun q => zPt q ((((90 + (6 * g1)) + 5)).toNat) 0) fm150_70)
                                  clear em151
                                  refine zw_7 zr_146_169 rfl ?_
                                  refine zw_46r (s := 70) zr_146_170 rfl rfl rfl rfl ?_
                                  refine zw_push zr_146_173 ?_
                                  refine zw_45 zr_146_176 ⟨rfl, rfl⟩ ?_
                                  refine zw_48k (c := 70) (len := 826) zr_146_177 rfl rfl (by omega) (by omega) (show (823 : Int).toNat = 823 by omega) km151_70_823 ?_
                                  refine zw_push zr_146_178 ?_
                                  refine zw_16 zr_146_179 (by omega) ?_
                                  refine zw_49 (c := 70) (len := 826) zr_146_180 rfl rfl (by omega) (by omega) ?_
                                  intro m152 em152
                                  have hIm152 : zInv m152 := by rw [em152]; exact iu_70_meetings hIm151 (by omega) (by omega)
                                  have hFm152 : zFr W_146 m0 m152 := by rw [em152]; exact hFm151.any rfl
                                  have km152_70_822 : m152 70 822 = g0 := by rw [em152, zUp_ne (by omega)]; exact km151_70_822
                                  have km152_70_90 : m152 70 90 = a0 := by rw [em152, zUp_ne (by omega)]; exact km151_70_90
                                  have km152_70_91 : m152 70 91 = a1 := by rw [em152, zUp_ne (by omega)]; exact km151_70_91
                                  have km152_70_92 : m152 70 92 = a2 := by rw [em152, zUp_ne (by omega)]; exact km151_70_92
                                  have km152_70_93 : m152 70 93 = a3 := by rw [em152, zUp_ne (by omega)]; exact km151_70_93
                                  have km152_70_94 : m152 70 94 = 0 := by rw [em152, zUp_ne (by omega)]; exact km151_70_94
                                  have km152_70_95 : m152 70 95 = 0 := by rw [em152, zUp_ne (by omega)]; exact km151_70_95
                                  have km152_70_823 : m152 70 823 = (g1 + 1) := by rw [em152, show (823 : Int).toNat = 823 by omega]; exact zUp_eq _ _ _ _
                                  have fm152_70 : m152 70 = zPt (zPt (zPt (zPt (zPt (zPt (zPt F70 ((((90 + (6 * g1)) + 0)).toNat) a0) ((((90 + (6 * g1)) + 1)).toNat) a1) ((((90 + (6 * g1)) + 2)).toNat) a2) ((((90 + (6 * g1)) + 3)).toNat) a3) ((((90 + (6 * g1)) + 4)).toNat) 0) ((((90 + (6 * g1)) + 5)).toNat) 0) 823 ((g1 + 1)) := by rw [em152]; exact (zUp_ff (m := m151)).trans (congrArg (fun q => zPt q 823 ((g1 + 1))) fm151_70)
                                  clear em152
                                  refine zw_7 zr_146_181 rfl ?_
                                  refine zw_C zr_146_182 (Or.inl rfl) zm_142 rfl rfl ⟨Nat.le_of_ble_eq_true rfl, Nat.le_of_ble_eq_true rfl, Nat.le_of_ble_eq_true rfl, rfl, by decide⟩ (by omega) (P := (fun v m' => zW E (d) 146 185 [(2, 69), (0, a0), (0, a1), (0, a2), (0, a3), (0, a4), (0, 0), (0, (90 + (6 * g1)))] (if v.1 = 9 then [] else v :: []) m' Q)) ?_ (fun _ _ h => h)
                                  generalize hQ1 : (fun v m' => zW E (d) 146 185 [(2, 69), (0, a0), (0, a1), (0, a2), (0, a3), (0, a4), (0, 0), (0, (90 + (6 * g1)))] (if v.1 = 9 then [] else v :: []) m' Q) = Q1
                                  show zW E (d - 1) 142 0 [(2, 69)] [] m152 Q1
                                  refine zw_7 zr_142_0 rfl ?_
                                  refine zw_46r (s := 70) zr_142_1 rfl rfl rfl rfl ?_
                                  refine zw_push zr_142_4 ?_
                                  refine zw_48k (c := 70) (len := 826) zr_142_7 rfl rfl (by omega) (by omega) (show (823 : Int).toNat = 823 by omega) km152_70_823 ?_
                                  refine zw_R zr_142_8 (by decide) zm_142 (v := (0, (g1 + 1))) rfl ?_
                                  rw [← hQ1]
                                  show zW E (d) 146 185 [(2, 69), (0, a0), (0, a1), (0, a2), (0, a3), (0, a4), (0, 0), (0, (90 + (6 * g1)))] [(0, (g1 + 1))] m152 Q
                                  refine zw_push zr_146_185 ?_
                                  refine zw_17 zr_146_186 (by omega) ?_
                                  refine zw_R zr_146_187 (by decide) zm_146 (v := (0, ((g1 + 1) - 1))) rfl ?_
                                  rw [← hQ]; exact ⟨_, rfl, by omega, by omega, hIm152, hFm152, by omega, by rw [fm152_70]; first | exact (if_neg (by omega)).symm | exact (if_pos (by omega)).symm | (rw [show a4 = 1 by omega]; first | exact (if_neg (by omega)).symm | exact (if_pos (by omega)).symm) | (rw [show a4 = 0 by omega]; first | exact (if_neg (by omega)).symm | exact (if_pos (by omega)).symm)⟩
                                · intro h155
                                  refine zw_push zr_146_153 ?_
                                  refine zw_42 zr_146_154 ?_
                                  refine zw_49 (c := 70) (len := 826) zr_146_158 rfl rfl (by omega) (by omega) ?_
                                  intro m156 em156
                                  have hIm156 : zInv m156 := by rw [em156]; exact iu_70_m4 hIm148 (by omega) (by omega)
                                  have hFm156 : zFr W_146 m0 m156 := by rw [em156]; exact hFm148.any rfl
                                  have km156_70_822 : m156 70 822 = g0 := by rw [em156, zUp_ne (by omega)]; exact km148_70_822
                                  have km156_70_823 : m156 70 823 = g1 := by rw [em156, zUp_ne (by omega)]; exact km148_70_823
                                  have km156_70_90 : m156 70 90 = a0 := by rw [em156, zUp_ne (by omega)]; exact km148_70_90
                                  have km156_70_91 : m156 70 91 = a1 := by rw [em156, zUp_ne (by omega)]; exact km148_70_91
                                  have km156_70_92 : m156 70 92 = a2 := by rw [em156, zUp_ne (by omega)]; exact km148_70_92
                                  have km156_70_93 : m156 70 93 = a3 := by rw [em156, zUp_ne (by omega)]; exact km148_70_93
                                  have km156_70_94 : m156 70 94 = 1 := by rw [em156, show (((90 + (6 * g1)) + 4) : Int).toNat = 94 by omega]; exact zUp_eq _ _ _ _
                                  have fm156_70 : m156 70 = zPt (zPt (zPt (zPt (zPt F70 ((((90 + (6 * g1)) + 0)).toNat) a0) ((((90 + (6 * g1)) + 1)).toNat) a1) ((((90 + (6 * g1)) + 2)).toNat) a2) ((((90 + (6 * g1)) + 3)).toNat) a3) ((((90 + (6 * g1)) + 4)).toNat) 1 := by rw [em156]; exact (zUp_ff (m := m148)).trans (congrArg (fun q => zPt q ((((90 + (6 * g1)) + 4)).toNat) 1) fm148_70)
                                  clear em156
                                  refine zw_7 zr_146_159 rfl ?_
                                  refine zw_46r (s := 70) zr_146_160 rfl rfl rfl rfl ?_
                                  refine zw_4 zr_146_163 rfl ?_
                                  refine zw_push zr_146_165 ?_
                                  refine zw_16 zr_146_166 (by omega) ?_
                                  refine zw_push zr_146_167 ?_
                                  refine zw_49 (c := 70) (len := 826) zr_146_168 rfl rfl (by omega) (by omega) ?_
                                  intro m157 em157
                                  have hIm157 : zInv m157 := by rw [em157]; exact iu_70_m5 hIm156 (by omega) (by omega)
                                  have hFm157 : zFr W_146 m0 m157 := by rw [em157]; exact hFm156.any rfl
                                  have km157_70_822 : m157 70 822 = g0 := by rw [em157, zUp_ne (by omega)]; exact km156_70_822
                                  have km157_70_823 : m157 70 823 = g1 := by rw [em157, zUp_ne (by omega)]; exact km156_70_823
                                  have km157_70_90 : m157 70 90 = a0 := by rw [em157, zUp_ne (by omega)]; exact km156_70_90
                                  have km157_70_91 : m157 70 91 = a1 := by rw [em157, zUp_ne (by omega)]; exact km156_70_91
                                  have km157_70_92 : m157 70 92 = a2 := by rw [em157, zUp_ne (by omega)]; exact km156_70_92
                                  have km157_70_93 : m157 70 93 = a3 := by rw [em157, zUp_ne (by omega)]; exact km156_70_93
                                  have km157_70_94 : m157 70 94 = 1 := by rw [em157, zUp_ne (by omega)]; exact km156_70_94
                                  have km157_70_95 : m157 70 95 = 0 := by rw [em157, show (((90 + (6 * g1)) + 5) : Int).toNat = 95 by omega]; exact zUp_eq _ _ _ _
                                  have fm157_70 : m157 70 = zPt (zPt (zPt (zPt (zPt (zPt F70 ((((90 + (6 * g1)) + 0)).toNat) a0) ((((90 + (6 * g1)) + 1)).toNat) a1) ((((90 + (6 * g1)) + 2)).toNat) a2) ((((90 + (6 * g1)) + 3)).toNat) a3) ((((90 + (6 * g1)) + 4)).toNat) 1) ((((90 + (6 * g1)) + 5)).toNat) 0 := by rw [em157]; exact (zUp_ff (m := m156)).trans (congrArg (fun q => zPt q ((((90 + (6 * g1)) + 5)).toNat) 0) fm156_70)
                                  clear em157
                                  refine zw_7 zr_146_169 rfl ?_
                                  refine zw_46r (s := 70) zr_146_170 rfl rfl rfl rfl ?_
                                  refine zw_push zr_146_173 ?_
                                  refine zw_45 zr_146_176 ⟨rfl, rfl⟩ ?_
                                  refine zw_48k (c := 70) (len := 826) zr_146_177 rfl rfl (by omega) (by omega) (show (823 : Int).toNat = 823 by omega) km157_70_823 ?_
                                  refine zw_push zr_146_178 ?_
                                  refine zw_16 zr_146_179 (by omega) ?_
                                  refine zw_49 (c := 70) (len := 826) zr_146_180 rfl rfl (by omega) (by omega) ?_
                                  intro m158 em158
                                  have hIm158 : zInv m158 := by rw [em158]; exact iu_70_meetings hIm157 (by omega) (by omega)
                                  have hFm158 : zFr W_146 m0 m158 := by rw [em158]; exact hFm157.any rfl
                                  have km158_70_822 : m158 70 822 = g0 := by rw [em158, zUp_ne (by omega)]; exact km157_70_822
                                  have km158_70_90 : m158 70 90 = a0 := by rw [em158, zUp_ne (by omega)]; exact km157_70_90
                                  have km158_70_91 : m158 70 91 = a1 := by rw [em158, zUp_ne (by omega)]; exact km157_70_91
                                  have km158_70_92 : m158 70 92 = a2 := by rw [em158, zUp_ne (by omega)]; exact km157_70_92
                                  have km158_70_93 : m158 70 93 = a3 := by rw [em158, zUp_ne (by omega)]; exact km157_70_93
                                  have km158_70_94 : m158 70 94 = 1 := by rw [em158, zUp_ne (by omega)]; exact km157_70_94
                                  have km158_70_95 : m158 70 95 = 0 := by rw [em158, zUp_ne (by omega)]; exact km157_70_95
                                  have km158_70_823 : m158 70 823 = (g1 + 1) := by rw [em158, show (823 : Int).toNat = 823 by omega]; exact zUp_eq _ _ _ _
                                  have fm158_70 : m158 70 = zPt (zPt (zPt (zPt (zPt (zPt (zPt F70 ((((90 + (6 * g1)) + 0)).toNat) a0) ((((90 + (6 * g1)) + 1)).toNat) a1) ((((90 + (6 * g1)) + 2)).toNat) a2) ((((90 + (6 * g1)) + 3)).toNat) a3) ((((90 + (6 * g1)) + 4)).toNat) 1) ((((90 + (6 * g1)) + 5)).toNat) 0) 823 ((g1 + 1)) := by rw [em158]; exact (zUp_ff (m := m157)).trans (congrArg (fun q => zPt q 823 ((g1 + 1))) fm157_70)
                                  clear em158
                                  refine zw_7 zr_146_181 rfl ?_
                                  refine zw_C zr_146_182 (Or.inl rfl) zm_142 rfl rfl ⟨Nat.le_of_ble_eq_true rfl, Nat.le_of_ble_eq_true rfl, Nat.le_of_ble_eq_true rfl, rfl, by decide⟩ (by omega) (P := (fun v m' => zW E (d) 146 185 [(2, 69), (0, a0), (0, a1), (0, a2), (0, a3), (0, a4), (0, 0), (0, (90 + (6 * g1)))] (if v.1 = 9 then [] else v :: []) m' Q)) ?_ (fun _ _ h => h)
                                  generalize hQ1 : (fun v m' => zW E (d) 146 185 [(2, 69), (0, a0), (0, a1), (0, a2), (0, a3), (0, a4), (0, 0), (0, (90 + (6 * g1)))] (if v.1 = 9 then [] else v :: []) m' Q) = Q1
                                  show zW E (d - 1) 142 0 [(2, 69)] [] m158 Q1
                                  refine zw_7 zr_142_0 rfl ?_
                                  refine zw_46r (s := 70) zr_142_1 rfl rfl rfl rfl ?_
                                  refine zw_push zr_142_4 ?_
                                  refine zw_48k (c := 70) (len := 826) zr_142_7 rfl rfl (by omega) (by omega) (show (823 : Int).toNat = 823 by omega) km158_70_823 ?_
                                  refine zw_R zr_142_8 (by decide) zm_142 (v := (0, (g1 + 1))) rfl ?_
                                  rw [← hQ1]
                                  show zW E (d) 146 185 [(2, 69), (0, a0), (0, a1), (0, a2), (0, a3), (0, a4), (0, 0), (0, (90 + (6 * g1)))] [(0, (g1 + 1))] m158 Q
                                  refine zw_push zr_146_185 ?_
                                  refine zw_17 zr_146_186 (by omega) ?_
                                  refine zw_R zr_146_187 (by decide) zm_146 (v := (0, ((g1 + 1) - 1))) rfl ?_
                                  rw [← hQ]; exact ⟨_, rfl, by omega, by omega, hIm158, hFm158, by omega, by rw [fm158_70]; first | exact (if_neg (by omega)).symm | exact (if_pos (by omega)).symm | (rw [show a4 = 1 by omega]; first | exact (if_neg (by omega)).symm | exact (if_pos (by omega)).symm) | (rw [show a4 = 0 by omega]; first | exact (if_neg (by omega)).symm | exact (if_pos (by omega)).symm)⟩
                              · intro h161; omega
                            · intro h162; omega

abbrev W_103 : List (Nat × Nat) := [(1, 2), (1, 3)]
set_option maxHeartbeats 8000000 in
theorem th_103 {E : zE} {d : Nat} {m0 : zM} {a0 : Int} {a1 : Int} {a2 : Int} {g0 : Int} {g1 : Int} {g2 : Int} (hd : 2 ≤ d) (hI0 : zInv m0) (hg0 : m0 1 1 = g0) (hg1 : m0 1 2 = g1) (hg2 : m0 1 3 = g2) (ha0 : (-2147483648) ≤ a0 ∧ a0 ≤ 2147483647) (ha1 : (-2147483648) ≤ a1 ∧ a1 ≤ 2147483647) (ha2 : 0 ≤ a2 ∧ a2 ≤ 1) : zC E d 103 [(2, 0), (0, a0), (0, a1), (0, a2)] m0 (fun v m' => ∃ r : Int, v = (0, r) ∧ (-3) ≤ r ∧ r ≤ 1 ∧ zInv m' ∧ zFr W_103 m0 m' ∧ (0 ≤ a2 ∧ a2 ≤ 1) ∧ ((r = -2 ∧ (a0 < 0 ∨ g0 ≤ a0 ∨ a1 < 0 ∨ 1 < a1)) ∨ (0 ≤ a0 ∧ a0 < g0 ∧ 0 ≤ a1 ∧ a1 ≤ 1 ∧ a1 = 0 ∧ ((r = -3 ∧ zbt g1 a0.toNat = a2) ∨ (r = 1 ∧ zbt g1 a0.toNat ≠ a2))) ∨ (0 ≤ a0 ∧ a0 < g0 ∧ 0 ≤ a1 ∧ a1 ≤ 1 ∧ a1 = 1 ∧ ((r = -3 ∧ zbt g2 a0.toNat = a2) ∨ (r = 1 ∧ zbt g2 a0.toNat ≠ a2)))) ∧ ((r = 1 ∧ a1 = 0 ∧ m' 1 2 = ztg g1 a0.toNat ∧ m' 1 3 = g2) ∨ (r = 1 ∧ a1 = 1 ∧ m' 1 2 = g1 ∧ m' 1 3 = ztg g2 a0.toNat) ∨ (r ≠ 1 ∧ m' 1 2 = g1 ∧ m' 1 3 = g2))) := by
  have hF0 : zFr W_103 m0 m0 := zFr.rfl
  have bg0 := ib_1_1 hI0
  rw [hg0] at bg0
  have bg1 := ib_1_2 hI0
  rw [hg1] at bg1
  have bg2 := ib_1_3 hI0
  rw [hg2] at bg2
  generalize hQ : (fun (v : zV) (m' : zM) => ∃ r : Int, v = (0, r) ∧ (-3) ≤ r ∧ r ≤ 1 ∧ zInv m' ∧ zFr W_103 m0 m' ∧ (0 ≤ a2 ∧ a2 ≤ 1) ∧ ((r = -2 ∧ (a0 < 0 ∨ g0 ≤ a0 ∨ a1 < 0 ∨ 1 < a1)) ∨ (0 ≤ a0 ∧ a0 < g0 ∧ 0 ≤ a1 ∧ a1 ≤ 1 ∧ a1 = 0 ∧ ((r = -3 ∧ zbt g1 a0.toNat = a2) ∨ (r = 1 ∧ zbt g1 a0.toNat ≠ a2))) ∨ (0 ≤ a0 ∧ a0 < g0 ∧ 0 ≤ a1 ∧ a1 ≤ 1 ∧ a1 = 1 ∧ ((r = -3 ∧ zbt g2 a0.toNat = a2) ∨ (r = 1 ∧ zbt g2 a0.toNat ≠ a2)))) ∧ ((r = 1 ∧ a1 = 0 ∧ m' 1 2 = ztg g1 a0.toNat ∧ m' 1 3 = g2) ∨ (r = 1 ∧ a1 = 1 ∧ m' 1 2 = g1 ∧ m' 1 3 = ztg g2 a0.toNat) ∨ (r ≠ 1 ∧ m' 1 2 = g1 ∧ m' 1 3 = g2))) = Q
  show zW E d 103 0 [(2, 0), (0, a0), (0, a1), (0, a2), (9, 0), (9, 0), (9, 0), (9, 0)] [] m0 Q
  have z1 := zbt_01 g1 a0.toNat
  have z2 := zbt_01 g2 a0.toNat
  refine zw_3 zr_103_0 rfl ?_
  refine zw_push zr_103_1 ?_
  refine zw_7 zr_103_2 rfl ?_
  refine zw_46r (s := 1) zr_103_3 rfl rfl rfl rfl ?_
  refine zw_46i zr_103_6 hg0 rfl rfl rfl ?_
  refine zw_push zr_103_9 ?_
  refine zw_17 zr_103_10 (by omega) ?_
  refine zw_C zr_103_11 (Or.inr rfl) zm_100 rfl rfl ⟨Nat.le_of_ble_eq_true rfl, Nat.le_of_ble_eq_true rfl, Nat.le_of_ble_eq_true rfl, rfl, by decide⟩ (by omega) (P := (fun v m' => zW E (d) 103 14 [(2, 0), (0, a0), (0, a1), (0, a2), (9, 0), (9, 0), (9, 0), (9, 0)] (if v.1 = 9 then [] else v :: []) m' Q)) ?_ (fun _ _ h => h)
  generalize hQ1 : (fun v m' => zW E (d) 103 14 [(2, 0), (0, a0), (0, a1), (0, a2), (9, 0), (9, 0), (9, 0), (9, 0)] (if v.1 = 9 then [] else v :: []) m' Q) = Q1
  show zW E (d - 1) 100 0 [(0, a0), (0, 0), (0, (g0 - 1))] [] m0 Q1
  refine zw_3 zr_100_0 rfl ?_
  refine zw_3 zr_100_1 rfl ?_
  refine zw_41_0 zr_100_2 ?_ ?_
  · intro h3
    refine zw_push zr_100_14 ?_
    refine zw_R zr_100_15 (by decide) zm_100 (v := (0, 0)) (zRetB (by omega)) ?_
    rw [← hQ1]
    show zW E (d) 103 14 [(2, 0), (0, a0), (0, a1), (0, a2), (9, 0), (9, 0), (9, 0), (9, 0)] [(0, 0)] m0 Q
    refine zw_40_1 zr_103_14 ?_ ?_
    · intro h4
      refine zw_push zr_103_26 ?_
      refine zw_R zr_103_28 (by decide) zm_103 (v := (0, (-2))) rfl ?_
      rw [← hQ]; exact ⟨_, rfl, by omega, by omega, hI0, hF0, by omega, by omega, by omega⟩
    · intro h8; omega
  · intro h9
    refine zw_3 zr_100_5 rfl ?_
    refine zw_3 zr_100_6 rfl ?_
    refine zw_41_2 zr_100_7 ?_ ?_
    · intro h10
      refine zw_push zr_100_14 ?_
      refine zw_R zr_100_15 (by decide) zm_100 (v := (0, 0)) (zRetB (by omega)) ?_
      rw [← hQ1]
      show zW E (d) 103 14 [(2, 0), (0, a0), (0, a1), (0, a2), (9, 0), (9, 0), (9, 0), (9, 0)] [(0, 0)] m0 Q
      refine zw_40_1 zr_103_14 ?_ ?_
      · intro h11
        refine zw_push zr_103_26 ?_
        refine zw_R zr_103_28 (by decide) zm_103 (v := (0, (-2))) rfl ?_
        rw [← hQ]; exact ⟨_, rfl, by omega, by omega, hI0, hF0, by omega, by omega, by omega⟩
      · intro h15; omega
    · intro h16
      refine zw_push zr_100_10 ?_
      refine zw_42 zr_100_11 ?_
      refine zw_R zr_100_15 (by decide) zm_100 (v := (0, 1)) (zRetB (by omega)) ?_
      rw [← hQ1]
      show zW E (d) 103 14 [(2, 0), (0, a0), (0, a1), (0, a2), (9, 0), (9, 0), (9, 0), (9, 0)] [(0, 1)] m0 Q
      refine zw_40_1 zr_103_14 ?_ ?_
      · intro h17; omega
      · intro h18
        refine zw_3 zr_103_17 rfl ?_
        refine zw_push zr_103_18 ?_
        refine zw_push zr_103_19 ?_
        refine zw_C zr_103_20 (Or.inr rfl) zm_100 rfl rfl ⟨Nat.le_of_ble_eq_true rfl, Nat.le_of_ble_eq_true rfl, Nat.le_of_ble_eq_true rfl, rfl, by decide⟩ (by omega) (P := (fun v m' => zW E (d) 103 23 [(2, 0), (0, a0), (0, a1), (0, a2), (9, 0), (9, 0), (9, 0), (9, 0)] (if v.1 = 9 then [] else v :: []) m' Q)) ?_ (fun _ _ h => h)
        generalize hQ1 : (fun v m' => zW E (d) 103 23 [(2, 0), (0, a0), (0, a1), (0, a2), (9, 0), (9, 0), (9, 0), (9, 0)] (if v.1 = 9 then [] else v :: []) m' Q) = Q1
        show zW E (d - 1) 100 0 [(0, a1), (0, 0), (0, 1)] [] m0 Q1
        refine zw_3 zr_100_0 rfl ?_
        refine zw_3 zr_100_1 rfl ?_
        refine zw_41_0 zr_100_2 ?_ ?_
        · intro h19
          refine zw_push zr_100_14 ?_
          refine zw_R zr_100_15 (by decide) zm_100 (v := (0, 0)) (zRetB (by omega)) ?_
          rw [← hQ1]
          show zW E (d) 103 23 [(2, 0), (0, a0), (0, a1), (0, a2), (9, 0), (9, 0), (9, 0), (9, 0)] [(0, 0)] m0 Q
          refine zw_40_4 zr_103_23 ?_ ?_
          · intro h20; omega
          · intro h21
            refine zw_push zr_103_26 ?_
            refine zw_R zr_103_28 (by decide) zm_103 (v := (0, (-2))) rfl ?_
            rw [← hQ]; exact ⟨_, rfl, by omega, by omega, hI0, hF0, by omega, by omega, by omega⟩
        · intro h25
          refine zw_3 zr_100_5 rfl ?_
          refine zw_3 zr_100_6 rfl ?_
          refine zw_41_2 zr_100_7 ?_ ?_
          · intro h26
            refine zw_push zr_100_14 ?_
            refine zw_R zr_100_15 (by decide) zm_100 (v := (0, 0)) (zRetB (by omega)) ?_
            rw [← hQ1]
            show zW E (d) 103 23 [(2, 0), (0, a0), (0, a1), (0, a2), (9, 0), (9, 0), (9, 0), (9, 0)] [(0, 0)] m0 Q
            refine zw_40_4 zr_103_23 ?_ ?_
            · intro h27; omega
            · intro h28
              refine zw_push zr_103_26 ?_
              refine zw_R zr_103_28 (by decide) zm_103 (v := (0, (-2))) rfl ?_
              rw [← hQ]; exact ⟨_, rfl, by omega, by omega, hI0, hF0, by omega, by omega, by omega⟩
          · intro h32
            refine zw_push zr_100_10 ?_
            refine zw_42 zr_100_11 ?_
            refine zw_R zr_100_15 (by decide) zm_100 (v := (0, 1)) (zRetB (by omega)) ?_
            rw [← hQ1]
            show zW E (d) 103 23 [(2, 0), (0, a0), (0, a1), (0, a2), (9, 0), (9, 0), (9, 0), (9, 0)] [(0, 1)] m0 Q
            refine zw_40_4 zr_103_23 ?_ ?_
            · intro h33
              refine zw_push zr_103_29 ?_
              refine zw_3 zr_103_30 rfl ?_
              refine zw_33p zr_103_31 (by omega) ?_
              intro x34 ex34 hx34a hx34b
              refine zw_14 (L' := [(2, 0), (0, a0), (0, a1), (0, a2), (1, x34), (9, 0), (9, 0), (9, 0)]) zr_103_32 (Nat.le_of_ble_eq_true rfl) rfl ?_
              refine zw_3 zr_103_34 rfl ?_
              refine zw_40_4 zr_103_35 ?_ ?_
              · intro h35
                refine zw_7 zr_103_48 rfl ?_
                refine zw_46r (s := 1) zr_103_49 rfl rfl rfl rfl ?_
                refine zw_46l zr_103_52 hg2 rfl rfl rfl ?_
                refine zw_14 (L' := [(2, 0), (0, a0), (0, a1), (0, a2), (1, x34), (9, 0), (1, g2), (9, 0)]) zr_103_55 (Nat.le_of_ble_eq_true rfl) rfl ?_
                refine zw_6 zr_103_57 rfl ?_
                refine zw_6 zr_103_59 rfl ?_
                refine zw_30p (s := a0) zr_103_61 ex34 (by omega) (by omega) ?_
                intro x36 hx36a
                refine zw_push zr_103_62 ?_
                refine zw_39_1 zr_103_63 zr_103_64 ?_ ?_
                · intro h37
                  refine zw_push zr_103_71 ?_
                  refine zw_3 zr_103_72 rfl ?_
                  refine zw_41_4 zr_103_73 ?_ ?_
                  · intro h38
                    refine zw_3 zr_103_79 rfl ?_
                    refine zw_40_4 zr_103_80 ?_ ?_
                    · intro h39
                      refine zw_7 zr_103_100 rfl ?_
                      refine zw_46r (s := 1) zr_103_101 rfl rfl rfl rfl ?_
                      refine zw_43 zr_103_104 rfl ?_
                      refine zw_46l zr_103_105 hg2 rfl rfl rfl ?_
                      refine zw_6 zr_103_108 rfl ?_
                      refine zw_32p (s := a0) zr_103_110 ex34 (by omega) (by omega) ?_
                      intro x40 ex40 hx40a hx40b
                      refine zw_47 (c := 1) zr_103_111 rfl ⟨rfl, by decide, rfl⟩ ?_
                      intro m41 em41
                      have hIm41 : zInv m41 := by rw [em41]; exact hI0.bdl (r := 1) (k := 3) (lo := 0) (hi := 1152921504606846975) rfl (by omega) (by decide) (by decide) (by decide) (by decide)
                      have hFm41 : zFr W_103 m0 m41 := by rw [em41]; exact hF0.up rfl
                      have km41_1_1 : m41 1 1 = g0 := by rw [em41, zUp_ne (by omega)]; exact hg0
                      have km41_1_2 : m41 1 2 = g1 := by rw [em41, zUp_ne (by omega)]; exact hg1
                      have km41_1_3 : m41 1 3 = x40 := by rw [em41]; exact zUp_eq _ _ _ _
                      clear em41
                      refine zw_push zr_103_114 ?_
                      refine zw_R zr_103_115 (by decide) zm_103 (v := (0, 1)) rfl ?_
                      rw [← hQ]; exact ⟨_, rfl, by omega, by omega, hIm41, hFm41, by omega, by omega, by omega⟩
                    · intro h45; omega
                  · intro h46
                    refine zw_push zr_103_76 ?_
                    refine zw_R zr_103_78 (by decide) zm_103 (v := (0, (-3))) rfl ?_
                    rw [← hQ]; exact ⟨_, rfl, by omega, by omega, hI0, hF0, by omega, by omega, by omega⟩
                · intro h50
                  refine zw_push zr_103_67 ?_
                  refine zw_42 zr_103_68 ?_
                  refine zw_3 zr_103_72 rfl ?_
                  refine zw_41_4 zr_103_73 ?_ ?_
                  · intro h51
                    refine zw_3 zr_103_79 rfl ?_
                    refine zw_40_4 zr_103_80 ?_ ?_
                    · intro h52
                      refine zw_7 zr_103_100 rfl ?_
                      refine zw_46r (s := 1) zr_103_101 rfl rfl rfl rfl ?_
                      refine zw_43 zr_103_104 rfl ?_
                      refine zw_46l zr_103_105 hg2 rfl rfl rfl ?_
                      refine zw_6 zr_103_108 rfl ?_
                      refine zw_32p (s := a0) zr_103_110 ex34 (by omega) (by omega) ?_
                      intro x53 ex53 hx53a hx53b
                      refine zw_47 (c := 1) zr_103_111 rfl ⟨rfl, by decide, rfl⟩ ?_
                      intro m54 em54
                      have hIm54 : zInv m54 := by rw [em54]; exact hI0.bdl (r := 1) (k := 3) (lo := 0) (hi := 1152921504606846975) rfl (by omega) (by decide) (by decide) (by decide) (by decide)
                      have hFm54 : zFr W_103 m0 m54 := by rw [em54]; exact hF0.up rfl
                      have km54_1_1 : m54 1 1 = g0 := by rw [em54, zUp_ne (by omega)]; exact hg0
                      have km54_1_2 : m54 1 2 = g1 := by rw [em54, zUp_ne (by omega)]; exact hg1
                      have km54_1_3 : m54 1 3 = x53 := by rw [em54]; exact zUp_eq _ _ _ _
                      clear em54
                      refine zw_push zr_103_114 ?_
                      refine zw_R zr_103_115 (by decide) zm_103 (v := (0, 1)) rfl ?_
                      rw [← hQ]; exact ⟨_, rfl, by omega, by omega, hIm54, hFm54, by omega, by omega, by omega⟩
                    · intro h58; omega
                  · intro h59
                    refine zw_push zr_103_76 ?_
                    refine zw_R zr_103_78 (by decide) zm_103 (v := (0, (-3))) rfl ?_
                    rw [← hQ]; exact ⟨_, rfl, by omega, by omega, hI0, hF0, by omega, by omega, by omega⟩
              · intro h63
                refine zw_7 zr_103_38 rfl ?_
                refine zw_46r (s := 1) zr_103_39 rfl rfl rfl rfl ?_
                refine zw_46l zr_103_42 hg1 rfl rfl rfl ?_
                refine zw_42 zr_103_45 ?_
                refine zw_14 (L' := [(2, 0), (0, a0), (0, a1), (0, a2), (1, x34), (9, 0), (1, g1), (9, 0)]) zr_103_55 (Nat.le_of_ble_eq_true rfl) rfl ?_
                refine zw_6 zr_103_57 rfl ?_
                refine zw_6 zr_103_59 rfl ?_
                refine zw_30p (s := a0) zr_103_61 ex34 (by omega) (by omega) ?_
                intro x64 hx64a
                refine zw_push zr_103_62 ?_
                refine zw_39_1 zr_103_63 zr_103_64 ?_ ?_
                · intro h65
                  refine zw_push zr_103_71 ?_
                  refine zw_3 zr_103_72 rfl ?_
                  refine zw_41_4 zr_103_73 ?_ ?_
                  · intro h66
                    refine zw_3 zr_103_79 rfl ?_
                    refine zw_40_4 zr_103_80 ?_ ?_
                    · intro h67; omega
                    · intro h68
                      refine zw_7 zr_103_83 rfl ?_
                      refine zw_46r (s := 1) zr_103_84 rfl rfl rfl rfl ?_
                      refine zw_43 zr_103_87 rfl ?_
                      refine zw_46l zr_103_88 hg1 rfl rfl rfl ?_
                      refine zw_6 zr_103_91 rfl ?_
                      refine zw_32p (s := a0) zr_103_93 ex34 (by omega) (by omega) ?_
                      intro x69 ex69 hx69a hx69b
                      refine zw_47 (c := 1) zr_103_94 rfl ⟨rfl, by decide, rfl⟩ ?_
                      intro m70 em70
                      have hIm70 : zInv m70 := by rw [em70]; exact hI0.bdl (r := 1) (k := 2) (lo := 0) (hi := 1152921504606846975) rfl (by omega) (by decide) (by decide) (by decide) (by decide)
                      have hFm70 : zFr W_103 m0 m70 := by rw [em70]; exact hF0.up rfl
                      have km70_1_1 : m70 1 1 = g0 := by rw [em70, zUp_ne (by omega)]; exact hg0
                      have km70_1_3 : m70 1 3 = g2 := by rw [em70, zUp_ne (by omega)]; exact hg2
                      have km70_1_2 : m70 1 2 = x69 := by rw [em70]; exact zUp_eq _ _ _ _
                      clear em70
                      refine zw_42 zr_103_97 ?_
                      refine zw_push zr_103_114 ?_
                      refine zw_R zr_103_115 (by decide) zm_103 (v := (0, 1)) rfl ?_
                      rw [← hQ]; exact ⟨_, rfl, by omega, by omega, hIm70, hFm70, by omega, by omega, by omega⟩
                  · intro h74
                    refine zw_push zr_103_76 ?_
                    refine zw_R zr_103_78 (by decide) zm_103 (v := (0, (-3))) rfl ?_
                    rw [← hQ]; exact ⟨_, rfl, by omega, by omega, hI0, hF0, by omega, by omega, by omega⟩
                · intro h78
                  refine zw_push zr_103_67 ?_
                  refine zw_42 zr_103_68 ?_
                  refine zw_3 zr_103_72 rfl ?_
                  refine zw_41_4 zr_103_73 ?_ ?_
                  · intro h79
                    refine zw_3 zr_103_79 rfl ?_
                    refine zw_40_4 zr_103_80 ?_ ?_
                    · intro h80; omega
                    · intro h81
                      refine zw_7 zr_103_83 rfl ?_
                      refine zw_46r (s := 1) zr_103_84 rfl rfl rfl rfl ?_
                      refine zw_43 zr_103_87 rfl ?_
                      refine zw_46l zr_103_88 hg1 rfl rfl rfl ?_
                      refine zw_6 zr_103_91 rfl ?_
                      refine zw_32p (s := a0) zr_103_93 ex34 (by omega) (by omega) ?_
                      intro x82 ex82 hx82a hx82b
                      refine zw_47 (c := 1) zr_103_94 rfl ⟨rfl, by decide, rfl⟩ ?_
                      intro m83 em83
                      have hIm83 : zInv m83 := by rw [em83]; exact hI0.bdl (r := 1) (k := 2) (lo := 0) (hi := 1152921504606846975) rfl (by omega) (by decide) (by decide) (by decide) (by decide)
                      have hFm83 : zFr W_103 m0 m83 := by rw [em83]; exact hF0.up rfl
                      have km83_1_1 : m83 1 1 = g0 := by rw [em83, zUp_ne (by omega)]; exact hg0
                      have km83_1_3 : m83 1 3 = g2 := by rw [em83, zUp_ne (by omega)]; exact hg2
                      have km83_1_2 : m83 1 2 = x82 := by rw [em83]; exact zUp_eq _ _ _ _
                      clear em83
                      refine zw_42 zr_103_97 ?_
                      refine zw_push zr_103_114 ?_
                      refine zw_R zr_103_115 (by decide) zm_103 (v := (0, 1)) rfl ?_
                      rw [← hQ]; exact ⟨_, rfl, by omega, by omega, hIm83, hFm83, by omega, by omega, by omega⟩
                  · intro h87
                    refine zw_push zr_103_76 ?_
                    refine zw_R zr_103_78 (by decide) zm_103 (v := (0, (-3))) rfl ?_
                    rw [← hQ]; exact ⟨_, rfl, by omega, by omega, hI0, hF0, by omega, by omega, by omega⟩
            · intro h91; omega

abbrev W_147 : List (Nat × Nat) := [(70, 1000)]
set_option maxHeartbeats 8000000 in
theorem th_147 {E : zE} {d : Nat} {m0 : zM} {a0 : Int} {a1 : Int} {a2 : Int} {g0 : Int} {F70 : Nat → Int} (hd : 2 ≤ d) (hI0 : zInv m0) (hg0 : m0 70 823 = g0) (hG70 : m0 70 = F70) (ha0 : (-2147483648) ≤ a0 ∧ a0 ≤ 2147483647) (ha1 : (-2147483648) ≤ a1 ∧ a1 ≤ 2147483647) (ha2 : 0 ≤ a2 ∧ a2 ≤ 1) : zC E d 147 [(2, 69), (0, a0), (0, a1), (0, a2)] m0 (fun v m' => ∃ r : Int, v = (0, r) ∧ (-3) ≤ r ∧ r ≤ 1 ∧ zInv m' ∧ zFr W_147 m0 m' ∧ ((r = -2 ∧ (a0 < 0 ∨ g0 ≤ a0 ∨ a1 < 0 ∨ 1 < a1)) ∨ (0 ≤ a0 ∧ a0 < g0 ∧ 0 ≤ a1 ∧ a1 ≤ 1 ∧ ((r = -3 ∧ F70 (90 + 6 * a0 + (4 + a1)).toNat = a2) ∨ (r = 1 ∧ F70 (90 + 6 * a0 + (4 + a1)).toNat ≠ a2)))) ∧ (m' 70 = if 0 ≤ r then zPt F70 (90 + 6 * a0 + 4 + a1).toNat a2 else F70)) := by
  have hF0 : zFr W_147 m0 m0 := zFr.rfl
  have bg0 : 0 ≤ m0 70 823 ∧ m0 70 823 ≤ 60 := ib_70_meetings hI0 (by omega)
  rw [hg0] at bg0
  generalize hQ : (fun (v : zV) (m' : zM) => ∃ r : Int, v = (0, r) ∧ (-3) ≤ r ∧ r ≤ 1 ∧ zInv m' ∧ zFr W_147 m0 m' ∧ ((r = -2 ∧ (a0 < 0 ∨ g0 ≤ a0 ∨ a1 < 0 ∨ 1 < a1)) ∨ (0 ≤ a0 ∧ a0 < g0 ∧ 0 ≤ a1 ∧ a1 ≤ 1 ∧ ((r = -3 ∧ F70 (90 + 6 * a0 + (4 + a1)).toNat = a2) ∨ (r = 1 ∧ F70 (90 + 6 * a0 + (4 + a1)).toNat ≠ a2)))) ∧ (m' 70 = if 0 ≤ r then zPt F70 (90 + 6 * a0 + 4 + a1).toNat a2 else F70)) = Q
  show zW E d 147 0 [(2, 69), (0, a0), (0, a1), (0, a2)] [] m0 Q
  refine zw_3 zr_147_0 rfl ?_
  refine zw_36 zr_147_1 ?_
  refine zw_push zr_147_2 ?_
  refine zw_7 zr_147_3 rfl ?_
  refine zw_C zr_147_4 (Or.inl rfl) zm_142 rfl rfl ⟨Nat.le_of_ble_eq_true rfl, Nat.le_of_ble_eq_true rfl, Nat.le_of_ble_eq_true rfl, rfl, by decide⟩ (by omega) (P := (fun v m' => zW E (d) 147 7 [(2, 69), (0, a0), (0, a1), (0, a2)] (if v.1 = 9 then [(1, 0), (1, a0)] else v :: [(1, 0), (1, a0)]) m' Q)) ?_ (fun _ _ h => h)
  generalize hQ1 : (fun v m' => zW E (d) 147 7 [(2, 69), (0, a0), (0, a1), (0, a2)] (if v.1 = 9 then [(1, 0), (1, a0)] else v :: [(1, 0), (1, a0)]) m' Q) = Q1
  show zW E (d - 1) 142 0 [(2, 69)] [] m0 Q1
  refine zw_7 zr_142_0 rfl ?_
  refine zw_46r (s := 70) zr_142_1 rfl rfl rfl rfl ?_
  refine zw_push zr_142_4 ?_
  refine zw_48k (c := 70) (len := 826) zr_142_7 rfl rfl (by omega) (by omega) (show (823 : Int).toNat = 823 by omega) hg0 ?_
  refine zw_R zr_142_8 (by decide) zm_142 (v := (0, g0)) rfl ?_
  rw [← hQ1]
  show zW E (d) 147 7 [(2, 69), (0, a0), (0, a1), (0, a2)] [(0, g0), (1, 0), (1, a0)] m0 Q
  refine zw_push zr_147_7 ?_
  refine zw_17 zr_147_8 (by omega) ?_
  refine zw_36 zr_147_9 ?_
  refine zw_C zr_147_10 (Or.inr rfl) zm_140 rfl rfl ⟨Nat.le_of_ble_eq_true rfl, Nat.le_of_ble_eq_true rfl, Nat.le_of_ble_eq_true rfl, rfl, by decide⟩ (by omega) (P := (fun v m' => zW E (d) 147 13 [(2, 69), (0, a0), (0, a1), (0, a2)] (if v.1 = 9 then [] else v :: []) m' Q)) ?_ (fun _ _ h => h)
  generalize hQ1 : (fun v m' => zW E (d) 147 13 [(2, 69), (0, a0), (0, a1), (0, a2)] (if v.1 = 9 then [] else v :: []) m' Q) = Q1
  show zW E (d - 1) 140 0 [(1, a0), (9, 0), (1, 0), (9, 0), (1, (g0 - 1)), (9, 0)] [] m0 Q1
  refine zw_5 zr_140_0 rfl ?_
  refine zw_5 zr_140_1 rfl ?_
  refine zw_39_0 zr_140_2 zr_140_3 ?_ ?_
  · intro h1
    refine zw_push zr_140_17 ?_
    refine zw_R zr_140_18 (by decide) zm_140 (v := (0, 0)) (zRetB (by omega)) ?_
    rw [← hQ1]
    show zW E (d) 147 13 [(2, 69), (0, a0), (0, a1), (0, a2)] [(0, 0)] m0 Q
    refine zw_40_1 zr_147_13 ?_ ?_
    · intro h2
      refine zw_push zr_147_26 ?_
      refine zw_R zr_147_28 (by decide) zm_147 (v := (0, (-2))) rfl ?_
      rw [← hQ]; exact ⟨_, rfl, by omega, by omega, hI0, hF0, by omega, by rw [hG70]; first | exact (if_neg (by omega)).symm | exact (if_pos (by omega)).symm | (rw [show a2 = 1 by omega]; first | exact (if_neg (by omega)).symm | exact (if_pos (by omega)).symm) | (rw [show a2 = 0 by omega]; first | exact (if_neg (by omega)).symm | exact (if_pos (by omega)).symm)⟩
    · intro h5; omega
  · intro h6
    refine zw_5 zr_140_6 rfl ?_
    refine zw_6 zr_140_7 rfl ?_
    refine zw_39_2 zr_140_9 zr_140_10 ?_ ?_
    · intro h7
      refine zw_push zr_140_17 ?_
      refine zw_R zr_140_18 (by decide) zm_140 (v := (0, 0)) (zRetB (by omega)) ?_
      rw [← hQ1]
      show zW E (d) 147 13 [(2, 69), (0, a0), (0, a1), (0, a2)] [(0, 0)] m0 Q
      refine zw_40_1 zr_147_13 ?_ ?_
      · intro h8
        refine zw_push zr_147_26 ?_
        refine zw_R zr_147_28 (by decide) zm_147 (v := (0, (-2))) rfl ?_
        rw [← hQ]; exact ⟨_, rfl, by omega, by omega, hI0, hF0, by omega, by rw [hG70]; first | exact (if_neg (by omega)).symm | exact (if_pos (by omega)).symm | (rw [show a2 = 1 by omega]; first | exact (if_neg (by omega)).symm | exact (if_pos (by omega)).symm) | (rw [show a2 = 0 by omega]; first | exact (if_neg (by omega)).symm | exact (if_pos (by omega)).symm)⟩
      · intro h11; omega
    · intro h12
      refine zw_push zr_140_13 ?_
      refine zw_42 zr_140_14 ?_
      refine zw_R zr_140_18 (by decide) zm_140 (v := (0, 1)) (zRetB (by omega)) ?_
      rw [← hQ1]
      show zW E (d) 147 13 [(2, 69), (0, a0), (0, a1), (0, a2)] [(0, 1)] m0 Q
      refine zw_40_1 zr_147_13 ?_ ?_
      · intro h13; omega
      · intro h14
        refine zw_3 zr_147_16 rfl ?_
        refine zw_36 zr_147_17 ?_
        refine zw_push zr_147_18 ?_
        refine zw_push zr_147_19 ?_
        refine zw_C zr_147_20 (Or.inr rfl) zm_140 rfl rfl ⟨Nat.le_of_ble_eq_true rfl, Nat.le_of_ble_eq_true rfl, Nat.le_of_ble_eq_true rfl, rfl, by decide⟩ (by omega) (P := (fun v m' => zW E (d) 147 23 [(2, 69), (0, a0), (0, a1), (0, a2)] (if v.1 = 9 then [] else v :: []) m' Q)) ?_ (fun _ _ h => h)
        generalize hQ1 : (fun v m' => zW E (d) 147 23 [(2, 69), (0, a0), (0, a1), (0, a2)] (if v.1 = 9 then [] else v :: []) m' Q) = Q1
        show zW E (d - 1) 140 0 [(1, a1), (9, 0), (1, 0), (9, 0), (1, 1), (9, 0)] [] m0 Q1
        refine zw_5 zr_140_0 rfl ?_
        refine zw_5 zr_140_1 rfl ?_
        refine zw_39_0 zr_140_2 zr_140_3 ?_ ?_
        · intro h15
          refine zw_push zr_140_17 ?_
          refine zw_R zr_140_18 (by decide) zm_140 (v := (0, 0)) (zRetB (by omega)) ?_
          rw [← hQ1]
          show zW E (d) 147 23 [(2, 69), (0, a0), (0, a1), (0, a2)] [(0, 0)] m0 Q
          refine zw_40_4 zr_147_23 ?_ ?_
          · intro h16; omega
          · intro h17
            refine zw_push zr_147_26 ?_
            refine zw_R zr_147_28 (by decide) zm_147 (v := (0, (-2))) rfl ?_
            rw [← hQ]; exact ⟨_, rfl, by omega, by omega, hI0, hF0, by omega, by rw [hG70]; first | exact (if_neg (by omega)).symm | exact (if_pos (by omega)).symm | (rw [show a2 = 1 by omega]; first | exact (if_neg (by omega)).symm | exact (if_pos (by omega)).symm) | (rw [show a2 = 0 by omega]; first | exact (if_neg (by omega)).symm | exact (if_pos (by omega)).symm)⟩
        · intro h20
          refine zw_5 zr_140_6 rfl ?_
          refine zw_6 zr_140_7 rfl ?_
          refine zw_39_2 zr_140_9 zr_140_10 ?_ ?_
          · intro h21
            refine zw_push zr_140_17 ?_
            refine zw_R zr_140_18 (by decide) zm_140 (v := (0, 0)) (zRetB (by omega)) ?_
            rw [← hQ1]
            show zW E (d) 147 23 [(2, 69), (0, a0), (0, a1), (0, a2)] [(0, 0)] m0 Q
            refine zw_40_4 zr_147_23 ?_ ?_
            · intro h22; omega
            · intro h23
              refine zw_push zr_147_26 ?_
              refine zw_R zr_147_28 (by decide) zm_147 (v := (0, (-2))) rfl ?_
              rw [← hQ]; exact ⟨_, rfl, by omega, by omega, hI0, hF0, by omega, by rw [hG70]; first | exact (if_neg (by omega)).symm | exact (if_pos (by omega)).symm | (rw [show a2 = 1 by omega]; first | exact (if_neg (by omega)).symm | exact (if_pos (by omega)).symm) | (rw [show a2 = 0 by omega]; first | exact (if_neg (by omega)).symm | exact (if_pos (by omega)).symm)⟩
          · intro h26
            refine zw_push zr_140_13 ?_
            refine zw_42 zr_140_14 ?_
            refine zw_R zr_140_18 (by decide) zm_140 (v := (0, 1)) (zRetB (by omega)) ?_
            rw [← hQ1]
            show zW E (d) 147 23 [(2, 69), (0, a0), (0, a1), (0, a2)] [(0, 1)] m0 Q
            refine zw_40_4 zr_147_23 ?_ ?_
            · intro h27
              refine zw_7 zr_147_29 rfl ?_
              refine zw_3 zr_147_30 rfl ?_
              refine zw_push zr_147_31 ?_
              refine zw_3 zr_147_32 rfl ?_
              refine zw_16 zr_147_33 (by omega) ?_
              refine zw_C zr_147_34 (Or.inl rfl) zm_144 rfl rfl ⟨Nat.le_of_ble_eq_true rfl, Nat.le_of_ble_eq_true rfl, Nat.le_of_ble_eq_true rfl, rfl, by decide⟩ (by omega) (P := (fun v m' => zW E (d) 147 37 [(2, 69), (0, a0), (0, a1), (0, a2)] (if v.1 = 9 then [] else v :: []) m' Q)) ?_ (fun _ _ h => h)
              generalize hQ1 : (fun v m' => zW E (d) 147 37 [(2, 69), (0, a0), (0, a1), (0, a2)] (if v.1 = 9 then [] else v :: []) m' Q) = Q1
              show zW E (d - 1) 144 0 [(2, 69), (0, a0), (0, (4 + a1))] [] m0 Q1
              refine zw_7 zr_144_0 rfl ?_
              refine zw_46r (s := 70) zr_144_1 rfl rfl rfl rfl ?_
              refine zw_push zr_144_4 ?_
              refine zw_push zr_144_6 ?_
              refine zw_3 zr_144_8 rfl ?_
              refine zw_18 zr_144_9 (by omega) ?_
              refine zw_16 zr_144_10 (by omega) ?_
              refine zw_3 zr_144_11 rfl ?_
              refine zw_16 zr_144_12 (by omega) ?_
              refine zw_48 (c := 70) (len := 826) zr_144_13 rfl rfl (by omega) (by omega) ?_
              intro x28 ex28
              have bx28 := ib_70_m45 hI0 (k := (((90 + (6 * a0)) + (4 + a1))).toNat) (by omega)
              rw [← ex28] at bx28
              have qx28 : x28 = F70 (((90 + (6 * a0)) + (4 + a1))).toNat := by rw [← hG70]; exact ex28
              clear ex28
              refine zw_R zr_144_14 (by decide) zm_144 (v := (0, x28)) rfl ?_
              rw [← hQ1]
              show zW E (d) 147 37 [(2, 69), (0, a0), (0, a1), (0, a2)] [(0, x28)] m0 Q
              refine zw_push zr_147_37 ?_
              refine zw_41_4 zr_147_38 ?_ ?_
              · intro h29
                refine zw_push zr_147_45 ?_
                refine zw_3 zr_147_46 rfl ?_
                refine zw_41_4 zr_147_47 ?_ ?_
                · intro h30
                  refine zw_7 zr_147_53 rfl ?_
                  refine zw_46r (s := 70) zr_147_54 rfl rfl rfl rfl ?_
                  refine zw_push zr_147_57 ?_
                  refine zw_push zr_147_59 ?_
                  refine zw_3 zr_147_61 rfl ?_
                  refine zw_18 zr_147_62 (by omega) ?_
                  refine zw_16 zr_147_63 (by omega) ?_
                  refine zw_push zr_147_64 ?_
                  refine zw_16 zr_147_65 (by omega) ?_
                  refine zw_3 zr_147_66 rfl ?_
                  refine zw_16 zr_147_67 (by omega) ?_
                  refine zw_3 zr_147_68 rfl ?_
                  refine zw_40_1 zr_147_69 ?_ ?_
                  · intro h31; omega
                  · intro h32
                    refine zw_push zr_147_72 ?_
                    refine zw_42 zr_147_73 ?_
                    refine zw_49 (c := 70) (len := 826) zr_147_77 rfl rfl (by omega) (by omega) ?_
                    intro m33 em33
                    have hIm33 : zInv m33 := by rw [em33]; exact iu_70_m45 hI0 (by omega) (by omega)
                    have hFm33 : zFr W_147 m0 m33 := by rw [em33]; exact hF0.any rfl
                    have km33_70_823 : m33 70 823 = g0 := by rw [em33, zUp_ne (by omega)]; exact hg0
                    have fm33_70 : m33 70 = zPt F70 (((((90 + (6 * a0)) + 4) + a1)).toNat) 1 := by rw [em33]; exact (zUp_ff (m := m0)).trans (congrArg (fun q => zPt q (((((90 + (6 * a0)) + 4) + a1)).toNat) 1) hG70)
                    clear em33
                    refine zw_push zr_147_78 ?_
                    refine zw_R zr_147_79 (by decide) zm_147 (v := (0, 1)) rfl ?_
                    rw [← hQ]; exact ⟨_, rfl, by omega, by omega, hIm33, hFm33, by omega, by rw [fm33_70]; first | exact (if_neg (by omega)).symm | exact (if_pos (by omega)).symm | (rw [show a2 = 1 by omega]; first | exact (if_neg (by omega)).symm | exact (if_pos (by omega)).symm) | (rw [show a2 = 0 by omega]; first | exact (if_neg (by omega)).symm | exact (if_pos (by omega)).symm)⟩
                · intro h36
                  refine zw_push zr_147_50 ?_
                  refine zw_R zr_147_52 (by decide) zm_147 (v := (0, (-3))) rfl ?_
                  rw [← hQ]; exact ⟨_, rfl, by omega, by omega, hI0, hF0, by omega, by rw [hG70]; first | exact (if_neg (by omega)).symm | exact (if_pos (by omega)).symm | (rw [show a2 = 1 by omega]; first | exact (if_neg (by omega)).symm | exact (if_pos (by omega)).symm) | (rw [show a2 = 0 by omega]; first | exact (if_neg (by omega)).symm | exact (if_pos (by omega)).symm)⟩
              · intro h39
                refine zw_push zr_147_41 ?_
                refine zw_42 zr_147_42 ?_
                refine zw_3 zr_147_46 rfl ?_
                refine zw_41_4 zr_147_47 ?_ ?_
                · intro h40
                  refine zw_7 zr_147_53 rfl ?_
                  refine zw_46r (s := 70) zr_147_54 rfl rfl rfl rfl ?_
                  refine zw_push zr_147_57 ?_
                  refine zw_push zr_147_59 ?_
                  refine zw_3 zr_147_61 rfl ?_
                  refine zw_18 zr_147_62 (by omega) ?_
                  refine zw_16 zr_147_63 (by omega) ?_
                  refine zw_push zr_147_64 ?_
                  refine zw_16 zr_147_65 (by omega) ?_
                  refine zw_3 zr_147_66 rfl ?_
                  refine zw_16 zr_147_67 (by omega) ?_
                  refine zw_3 zr_147_68 rfl ?_
                  refine zw_40_1 zr_147_69 ?_ ?_
                  · intro h41
                    refine zw_push zr_147_76 ?_
                    refine zw_49 (c := 70) (len := 826) zr_147_77 rfl rfl (by omega) (by omega) ?_
                    intro m42 em42
                    have hIm42 : zInv m42 := by rw [em42]; exact iu_70_m45 hI0 (by omega) (by omega)
                    have hFm42 : zFr W_147 m0 m42 := by rw [em42]; exact hF0.any rfl
                    have km42_70_823 : m42 70 823 = g0 := by rw [em42, zUp_ne (by omega)]; exact hg0
                    have fm42_70 : m42 70 = zPt F70 (((((90 + (6 * a0)) + 4) + a1)).toNat) 0 := by rw [em42]; exact (zUp_ff (m := m0)).trans (congrArg (fun q => zPt q (((((90 + (6 * a0)) + 4) + a1)).toNat) 0) hG70)
                    clear em42
                    refine zw_push zr_147_78 ?_
                    refine zw_R zr_147_79 (by decide) zm_147 (v := (0, 1)) rfl ?_
                    rw [← hQ]; exact ⟨_, rfl, by omega, by omega, hIm42, hFm42, by omega, by rw [fm42_70]; first | exact (if_neg (by omega)).symm | exact (if_pos (by omega)).symm | (rw [show a2 = 1 by omega]; first | exact (if_neg (by omega)).symm | exact (if_pos (by omega)).symm) | (rw [show a2 = 0 by omega]; first | exact (if_neg (by omega)).symm | exact (if_pos (by omega)).symm)⟩
                  · intro h45; omega
                · intro h46
                  refine zw_push zr_147_50 ?_
                  refine zw_R zr_147_52 (by decide) zm_147 (v := (0, (-3))) rfl ?_
                  rw [← hQ]; exact ⟨_, rfl, by omega, by omega, hI0, hF0, by omega, by rw [hG70]; first | exact (if_neg (by omega)).symm | exact (if_pos (by omega)).symm | (rw [show a2 = 1 by omega]; first | exact (if_neg (by omega)).symm | exact (if_pos (by omega)).symm) | (rw [show a2 = 0 by omega]; first | exact (if_neg (by omega)).symm | exact (if_pos (by omega)).symm)⟩
            · intro h49; omega

abbrev W_105 : List (Nat × Nat) := [(9, 1000)]
set_option maxHeartbeats 8000000 in
theorem th_105 {E : zE} {d : Nat} {m0 : zM} {a0 : Int} {a1 : Int} {F9 : Nat → Int} (hd : 3 ≤ d) (hI0 : zInv m0) (hG9 : m0 9 = F9) (ha0 : (-2147483648) ≤ a0 ∧ a0 ≤ 2147483647) (ha1 : (-2147483648) ≤ a1 ∧ a1 ≤ 2147483647) : zC E d 105 [(2, 0), (0, a0), (0, a1)] m0 (fun v m' => ∃ r : Int, v = (0, r) ∧ (-2) ≤ r ∧ r ≤ 9999 ∧ zInv m' ∧ zFr W_105 m0 m' ∧ ((r = -2 ∧ (a0 < 0 ∨ 3 < a0 ∨ a1 < 0 ∨ 9999 < a1)) ∨ (0 ≤ a0 ∧ a0 ≤ 3 ∧ 0 ≤ a1 ∧ a1 ≤ 9999 ∧ 0 ≤ r ∧ r = F9 a0.toNat)) ∧ (m' 9 = if 0 ≤ r then zPt F9 a0.toNat a1 else F9)) := by
  have hF0 : zFr W_105 m0 m0 := zFr.rfl
  generalize hQ : (fun (v : zV) (m' : zM) => ∃ r : Int, v = (0, r) ∧ (-2) ≤ r ∧ r ≤ 9999 ∧ zInv m' ∧ zFr W_105 m0 m' ∧ ((r = -2 ∧ (a0 < 0 ∨ 3 < a0 ∨ a1 < 0 ∨ 9999 < a1)) ∨ (0 ≤ a0 ∧ a0 ≤ 3 ∧ 0 ≤ a1 ∧ a1 ≤ 9999 ∧ 0 ≤ r ∧ r = F9 a0.toNat)) ∧ (m' 9 = if 0 ≤ r then zPt F9 a0.toNat a1 else F9)) = Q
  show zW E d 105 0 [(2, 0), (0, a0), (0, a1), (9, 0)] [] m0 Q
  refine zw_3 zr_105_0 rfl ?_
  refine zw_C zr_105_1 (Or.inr rfl) zm_104 rfl rfl ⟨Nat.le_of_ble_eq_true rfl, Nat.le_of_ble_eq_true rfl, Nat.le_of_ble_eq_true rfl, rfl, by decide⟩ (by omega) (P := (fun v m' => zW E (d) 105 4 [(2, 0), (0, a0), (0, a1), (9, 0)] (if v.1 = 9 then [] else v :: []) m' Q)) ?_ (fun _ _ h => h)
  generalize hQ1 : (fun v m' => zW E (d) 105 4 [(2, 0), (0, a0), (0, a1), (9, 0)] (if v.1 = 9 then [] else v :: []) m' Q) = Q1
  show zW E (d - 1) 104 0 [(0, a0)] [] m0 Q1
  refine zw_3 zr_104_0 rfl ?_
  refine zw_push zr_104_1 ?_
  refine zw_push zr_104_2 ?_
  refine zw_C zr_104_3 (Or.inr rfl) zm_100 rfl rfl ⟨Nat.le_of_ble_eq_true rfl, Nat.le_of_ble_eq_true rfl, Nat.le_of_ble_eq_true rfl, rfl, by decide⟩ (by omega) (P := (fun v m' => zW E (d - 1) 104 6 [(0, a0)] (if v.1 = 9 then [] else v :: []) m' Q1)) ?_ (fun _ _ h => h)
  generalize hQ2 : (fun v m' => zW E (d - 1) 104 6 [(0, a0)] (if v.1 = 9 then [] else v :: []) m' Q1) = Q2
  show zW E (d - 1 - 1) 100 0 [(0, a0), (0, 0), (0, 3)] [] m0 Q2
  refine zw_3 zr_100_0 rfl ?_
  refine zw_3 zr_100_1 rfl ?_
  refine zw_41_0 zr_100_2 ?_ ?_
  · intro h1
    refine zw_push zr_100_14 ?_
    refine zw_R zr_100_15 (by decide) zm_100 (v := (0, 0)) (zRetB (by omega)) ?_
    rw [← hQ2]
    show zW E (d - 1) 104 6 [(0, a0)] [(0, 0)] m0 Q1
    refine zw_R zr_104_6 (by decide) zm_104 (v := (0, 0)) (zRetB (by omega)) ?_
    rw [← hQ1]
    show zW E (d) 105 4 [(2, 0), (0, a0), (0, a1), (9, 0)] [(0, 0)] m0 Q
    refine zw_40_1 zr_105_4 ?_ ?_
    · intro h2
      refine zw_push zr_105_18 ?_
      refine zw_R zr_105_20 (by decide) zm_105 (v := (0, (-2))) rfl ?_
      rw [← hQ]; exact ⟨_, rfl, by omega, by omega, hI0, hF0, by omega, by rw [hG9]; first | exact (if_neg (by omega)).symm | exact (if_pos (by omega)).symm⟩
    · intro h5; omega
  · intro h6
    refine zw_3 zr_100_5 rfl ?_
    refine zw_3 zr_100_6 rfl ?_
    refine zw_41_2 zr_100_7 ?_ ?_
    · intro h7
      refine zw_push zr_100_14 ?_
      refine zw_R zr_100_15 (by decide) zm_100 (v := (0, 0)) (zRetB (by omega)) ?_
      rw [← hQ2]
      show zW E (d - 1) 104 6 [(0, a0)] [(0, 0)] m0 Q1
      refine zw_R zr_104_6 (by decide) zm_104 (v := (0, 0)) (zRetB (by omega)) ?_
      rw [← hQ1]
      show zW E (d) 105 4 [(2, 0), (0, a0), (0, a1), (9, 0)] [(0, 0)] m0 Q
      refine zw_40_1 zr_105_4 ?_ ?_
      · intro h8
        refine zw_push zr_105_18 ?_
        refine zw_R zr_105_20 (by decide) zm_105 (v := (0, (-2))) rfl ?_
        rw [← hQ]; exact ⟨_, rfl, by omega, by omega, hI0, hF0, by omega, by rw [hG9]; first | exact (if_neg (by omega)).symm | exact (if_pos (by omega)).symm⟩
      · intro h11; omega
    · intro h12
      refine zw_push zr_100_10 ?_
      refine zw_42 zr_100_11 ?_
      refine zw_R zr_100_15 (by decide) zm_100 (v := (0, 1)) (zRetB (by omega)) ?_
      rw [← hQ2]
      show zW E (d - 1) 104 6 [(0, a0)] [(0, 1)] m0 Q1
      refine zw_R zr_104_6 (by decide) zm_104 (v := (0, 1)) (zRetB (by omega)) ?_
      rw [← hQ1]
      show zW E (d) 105 4 [(2, 0), (0, a0), (0, a1), (9, 0)] [(0, 1)] m0 Q
      refine zw_40_1 zr_105_4 ?_ ?_
      · intro h13; omega
      · intro h14
        refine zw_3 zr_105_7 rfl ?_
        refine zw_push zr_105_8 ?_
        refine zw_push zr_105_9 ?_
        refine zw_C zr_105_12 (Or.inr rfl) zm_100 rfl rfl ⟨Nat.le_of_ble_eq_true rfl, Nat.le_of_ble_eq_true rfl, Nat.le_of_ble_eq_true rfl, rfl, by decide⟩ (by omega) (P := (fun v m' => zW E (d) 105 15 [(2, 0), (0, a0), (0, a1), (9, 0)] (if v.1 = 9 then [] else v :: []) m' Q)) ?_ (fun _ _ h => h)
        generalize hQ1 : (fun v m' => zW E (d) 105 15 [(2, 0), (0, a0), (0, a1), (9, 0)] (if v.1 = 9 then [] else v :: []) m' Q) = Q1
        show zW E (d - 1) 100 0 [(0, a1), (0, 0), (0, 9999)] [] m0 Q1
        refine zw_3 zr_100_0 rfl ?_
        refine zw_3 zr_100_1 rfl ?_
        refine zw_41_0 zr_100_2 ?_ ?_
        · intro h15
          refine zw_push zr_100_14 ?_
          refine zw_R zr_100_15 (by decide) zm_100 (v := (0, 0)) (zRetB (by omega)) ?_
          rw [← hQ1]
          show zW E (d) 105 15 [(2, 0), (0, a0), (0, a1), (9, 0)] [(0, 0)] m0 Q
          refine zw_40_4 zr_105_15 ?_ ?_
          · intro h16; omega
          · intro h17
            refine zw_push zr_105_18 ?_
            refine zw_R zr_105_20 (by decide) zm_105 (v := (0, (-2))) rfl ?_
            rw [← hQ]; exact ⟨_, rfl, by omega, by omega, hI0, hF0, by omega, by rw [hG9]; first | exact (if_neg (by omega)).symm | exact (if_pos (by omega)).symm⟩
        · intro h20
          refine zw_3 zr_100_5 rfl ?_
          refine zw_3 zr_100_6 rfl ?_
          refine zw_41_2 zr_100_7 ?_ ?_
          · intro h21
            refine zw_push zr_100_14 ?_
            refine zw_R zr_100_15 (by decide) zm_100 (v := (0, 0)) (zRetB (by omega)) ?_
            rw [← hQ1]
            show zW E (d) 105 15 [(2, 0), (0, a0), (0, a1), (9, 0)] [(0, 0)] m0 Q
            refine zw_40_4 zr_105_15 ?_ ?_
            · intro h22; omega
            · intro h23
              refine zw_push zr_105_18 ?_
              refine zw_R zr_105_20 (by decide) zm_105 (v := (0, (-2))) rfl ?_
              rw [← hQ]; exact ⟨_, rfl, by omega, by omega, hI0, hF0, by omega, by rw [hG9]; first | exact (if_neg (by omega)).symm | exact (if_pos (by omega)).symm⟩
          · intro h26
            refine zw_push zr_100_10 ?_
            refine zw_42 zr_100_11 ?_
            refine zw_R zr_100_15 (by decide) zm_100 (v := (0, 1)) (zRetB (by omega)) ?_
            rw [← hQ1]
            show zW E (d) 105 15 [(2, 0), (0, a0), (0, a1), (9, 0)] [(0, 1)] m0 Q
            refine zw_40_4 zr_105_15 ?_ ?_
            · intro h27
              refine zw_7 zr_105_21 rfl ?_
              refine zw_46r (s := 1) zr_105_22 rfl rfl rfl rfl ?_
              refine zw_46r (s := 9) zr_105_25 rfl rfl rfl rfl ?_
              refine zw_3 zr_105_28 rfl ?_
              refine zw_48 (c := 9) (len := 4) zr_105_29 rfl rfl (by omega) (by omega) ?_
              intro x28 ex28
              have bx28 := ib_9 hI0 (k := (a0).toNat) (by omega)
              rw [← ex28] at bx28
              have qx28 : x28 = F9 (a0).toNat := by rw [← hG9]; exact ex28
              clear ex28
              refine zw_9 (L' := [(2, 0), (0, a0), (0, a1), (0, x28)]) zr_105_30 (Nat.le_of_ble_eq_true rfl) rfl ?_
              refine zw_7 zr_105_31 rfl ?_
              refine zw_46r (s := 1) zr_105_32 rfl rfl rfl rfl ?_
              refine zw_46r (s := 9) zr_105_35 rfl rfl rfl rfl ?_
              refine zw_3 zr_105_38 rfl ?_
              refine zw_3 zr_105_39 rfl ?_
              refine zw_49 (c := 9) (len := 4) zr_105_40 rfl rfl (by omega) (by omega) ?_
              intro m29 em29
              have hIm29 : zInv m29 := by rw [em29]; exact iu_9 hI0 (by omega)
              have hFm29 : zFr W_105 m0 m29 := by rw [em29]; exact hF0.any rfl
              have fm29_9 : m29 9 = zPt F9 ((a0).toNat) a1 := by rw [em29]; exact (zUp_ff (m := m0)).trans (congrArg (fun q => zPt q ((a0).toNat) a1) hG9)
              clear em29
              refine zw_3 zr_105_41 rfl ?_
              refine zw_R zr_105_42 (by decide) zm_105 (v := (0, x28)) rfl ?_
              rw [← hQ]; exact ⟨_, rfl, by omega, by omega, hIm29, hFm29, by omega, by rw [fm29_9]; first | exact (if_neg (by omega)).symm | exact (if_pos (by omega)).symm⟩
            · intro h32; omega

abbrev W_149 : List (Nat × Nat) := [(70, 1000)]
set_option maxHeartbeats 8000000 in
theorem th_149 {E : zE} {d : Nat} {m0 : zM} {a0 : Int} {a1 : Int} {F70 : Nat → Int} (hd : 3 ≤ d) (hI0 : zInv m0) (hG70 : m0 70 = F70) (ha0 : (-2147483648) ≤ a0 ∧ a0 ≤ 2147483647) (ha1 : (-2147483648) ≤ a1 ∧ a1 ≤ 2147483647) : zC E d 149 [(2, 69), (0, a0), (0, a1)] m0 (fun v m' => ∃ r : Int, v = (0, r) ∧ (-2) ≤ r ∧ r ≤ 9999 ∧ zInv m' ∧ zFr W_149 m0 m' ∧ ((r = -2 ∧ (a0 < 0 ∨ 3 < a0 ∨ a1 < 0 ∨ 9999 < a1)) ∨ (0 ≤ a0 ∧ a0 ≤ 3 ∧ 0 ≤ a1 ∧ a1 ≤ 9999 ∧ 0 ≤ r ∧ r = F70 (450 + 52 * a0).toNat)) ∧ (m' 70 = if 0 ≤ r then zPt F70 (450 + 52 * a0).toNat a1 else F70)) := by
  have hF0 : zFr W_149 m0 m0 := zFr.rfl
  generalize hQ : (fun (v : zV) (m' : zM) => ∃ r : Int, v = (0, r) ∧ (-2) ≤ r ∧ r ≤ 9999 ∧ zInv m' ∧ zFr W_149 m0 m' ∧ ((r = -2 ∧ (a0 < 0 ∨ 3 < a0 ∨ a1 < 0 ∨ 9999 < a1)) ∨ (0 ≤ a0 ∧ a0 ≤ 3 ∧ 0 ≤ a1 ∧ a1 ≤ 9999 ∧ 0 ≤ r ∧ r = F70 (450 + 52 * a0).toNat)) ∧ (m' 70 = if 0 ≤ r then zPt F70 (450 + 52 * a0).toNat a1 else F70)) = Q
  show zW E d 149 0 [(2, 69), (0, a0), (0, a1), (9, 0)] [] m0 Q
  refine zw_3 zr_149_0 rfl ?_
  refine zw_C zr_149_1 (Or.inr rfl) zm_148 rfl rfl ⟨Nat.le_of_ble_eq_true rfl, Nat.le_of_ble_eq_true rfl, Nat.le_of_ble_eq_true rfl, rfl, by decide⟩ (by omega) (P := (fun v m' => zW E (d) 149 4 [(2, 69), (0, a0), (0, a1), (9, 0)] (if v.1 = 9 then [] else v :: []) m' Q)) ?_ (fun _ _ h => h)
  generalize hQ1 : (fun v m' => zW E (d) 149 4 [(2, 69), (0, a0), (0, a1), (9, 0)] (if v.1 = 9 then [] else v :: []) m' Q) = Q1
  show zW E (d - 1) 148 0 [(0, a0)] [] m0 Q1
  refine zw_3 zr_148_0 rfl ?_
  refine zw_36 zr_148_1 ?_
  refine zw_push zr_148_2 ?_
  refine zw_push zr_148_3 ?_
  refine zw_C zr_148_6 (Or.inr rfl) zm_140 rfl rfl ⟨Nat.le_of_ble_eq_true rfl, Nat.le_of_ble_eq_true rfl, Nat.le_of_ble_eq_true rfl, rfl, by decide⟩ (by omega) (P := (fun v m' => zW E (d - 1) 148 9 [(0, a0)] (if v.1 = 9 then [] else v :: []) m' Q1)) ?_ (fun _ _ h => h)
  generalize hQ2 : (fun v m' => zW E (d - 1) 148 9 [(0, a0)] (if v.1 = 9 then [] else v :: []) m' Q1) = Q2
  show zW E (d - 1 - 1) 140 0 [(1, a0), (9, 0), (1, 0), (9, 0), (1, 3), (9, 0)] [] m0 Q2
  refine zw_5 zr_140_0 rfl ?_
  refine zw_5 zr_140_1 rfl ?_
  refine zw_39_0 zr_140_2 zr_140_3 ?_ ?_
  · intro h1
    refine zw_push zr_140_17 ?_
    refine zw_R zr_140_18 (by decide) zm_140 (v := (0, 0)) (zRetB (by omega)) ?_
    rw [← hQ2]
    show zW E (d - 1) 148 9 [(0, a0)] [(0, 0)] m0 Q1
    refine zw_R zr_148_9 (by decide) zm_148 (v := (0, 0)) (zRetB (by omega)) ?_
    rw [← hQ1]
    show zW E (d) 149 4 [(2, 69), (0, a0), (0, a1), (9, 0)] [(0, 0)] m0 Q
    refine zw_40_1 zr_149_4 ?_ ?_
    · intro h2
      refine zw_push zr_149_19 ?_
      refine zw_R zr_149_21 (by decide) zm_149 (v := (0, (-2))) rfl ?_
      rw [← hQ]; exact ⟨_, rfl, by omega, by omega, hI0, hF0, by omega, by rw [hG70]; first | exact (if_neg (by omega)).symm | exact (if_pos (by omega)).symm⟩
    · intro h5; omega
  · intro h6
    refine zw_5 zr_140_6 rfl ?_
    refine zw_6 zr_140_7 rfl ?_
    refine zw_39_2 zr_140_9 zr_140_10 ?_ ?_
    · intro h7
      refine zw_push zr_140_17 ?_
      refine zw_R zr_140_18 (by decide) zm_140 (v := (0, 0)) (zRetB (by omega)) ?_
      rw [← hQ2]
      show zW E (d - 1) 148 9 [(0, a0)] [(0, 0)] m0 Q1
      refine zw_R zr_148_9 (by decide) zm_148 (v := (0, 0)) (zRetB (by omega)) ?_
      rw [← hQ1]
      show zW E (d) 149 4 [(2, 69), (0, a0), (0, a1), (9, 0)] [(0, 0)] m0 Q
      refine zw_40_1 zr_149_4 ?_ ?_
      · intro h8
        refine zw_push zr_149_19 ?_
        refine zw_R zr_149_21 (by decide) zm_149 (v := (0, (-2))) rfl ?_
        rw [← hQ]; exact ⟨_, rfl, by omega, by omega, hI0, hF0, by omega, by rw [hG70]; first | exact (if_neg (by omega)).symm | exact (if_pos (by omega)).symm⟩
      · intro h11; omega
    · intro h12
      refine zw_push zr_140_13 ?_
      refine zw_42 zr_140_14 ?_
      refine zw_R zr_140_18 (by decide) zm_140 (v := (0, 1)) (zRetB (by omega)) ?_
      rw [← hQ2]
      show zW E (d - 1) 148 9 [(0, a0)] [(0, 1)] m0 Q1
      refine zw_R zr_148_9 (by decide) zm_148 (v := (0, 1)) (zRetB (by omega)) ?_
      rw [← hQ1]
      show zW E (d) 149 4 [(2, 69), (0, a0), (0, a1), (9, 0)] [(0, 1)] m0 Q
      refine zw_40_1 zr_149_4 ?_ ?_
      · intro h13; omega
      · intro h14
        refine zw_3 zr_149_7 rfl ?_
        refine zw_36 zr_149_8 ?_
        refine zw_push zr_149_9 ?_
        refine zw_push zr_149_10 ?_
        refine zw_C zr_149_13 (Or.inr rfl) zm_140 rfl rfl ⟨Nat.le_of_ble_eq_true rfl, Nat.le_of_ble_eq_true rfl, Nat.le_of_ble_eq_true rfl, rfl, by decide⟩ (by omega) (P := (fun v m' => zW E (d) 149 16 [(2, 69), (0, a0), (0, a1), (9, 0)] (if v.1 = 9 then [] else v :: []) m' Q)) ?_ (fun _ _ h => h)
        generalize hQ1 : (fun v m' => zW E (d) 149 16 [(2, 69), (0, a0), (0, a1), (9, 0)] (if v.1 = 9 then [] else v :: []) m' Q) = Q1
        show zW E (d - 1) 140 0 [(1, a1), (9, 0), (1, 0), (9, 0), (1, 9999), (9, 0)] [] m0 Q1
        refine zw_5 zr_140_0 rfl ?_
        refine zw_5 zr_140_1 rfl ?_
        refine zw_39_0 zr_140_2 zr_140_3 ?_ ?_
        · intro h15
          refine zw_push zr_140_17 ?_
          refine zw_R zr_140_18 (by decide) zm_140 (v := (0, 0)) (zRetB (by omega)) ?_
          rw [← hQ1]
          show zW E (d) 149 16 [(2, 69), (0, a0), (0, a1), (9, 0)] [(0, 0)] m0 Q
          refine zw_40_4 zr_149_16 ?_ ?_
          · intro h16; omega
          · intro h17
            refine zw_push zr_149_19 ?_
            refine zw_R zr_149_21 (by decide) zm_149 (v := (0, (-2))) rfl ?_
            rw [← hQ]; exact ⟨_, rfl, by omega, by omega, hI0, hF0, by omega, by rw [hG70]; first | exact (if_neg (by omega)).symm | exact (if_pos (by omega)).symm⟩
        · intro h20
          refine zw_5 zr_140_6 rfl ?_
          refine zw_6 zr_140_7 rfl ?_
          refine zw_39_2 zr_140_9 zr_140_10 ?_ ?_
          · intro h21
            refine zw_push zr_140_17 ?_
            refine zw_R zr_140_18 (by decide) zm_140 (v := (0, 0)) (zRetB (by omega)) ?_
            rw [← hQ1]
            show zW E (d) 149 16 [(2, 69), (0, a0), (0, a1), (9, 0)] [(0, 0)] m0 Q
            refine zw_40_4 zr_149_16 ?_ ?_
            · intro h22; omega
            · intro h23
              refine zw_push zr_149_19 ?_
              refine zw_R zr_149_21 (by decide) zm_149 (v := (0, (-2))) rfl ?_
              rw [← hQ]; exact ⟨_, rfl, by omega, by omega, hI0, hF0, by omega, by rw [hG70]; first | exact (if_neg (by omega)).symm | exact (if_pos (by omega)).symm⟩
          · intro h26
            refine zw_push zr_140_13 ?_
            refine zw_42 zr_140_14 ?_
            refine zw_R zr_140_18 (by decide) zm_140 (v := (0, 1)) (zRetB (by omega)) ?_
            rw [← hQ1]
            show zW E (d) 149 16 [(2, 69), (0, a0), (0, a1), (9, 0)] [(0, 1)] m0 Q
            refine zw_40_4 zr_149_16 ?_ ?_
            · intro h27
              refine zw_7 zr_149_22 rfl ?_
              refine zw_46r (s := 70) zr_149_23 rfl rfl rfl rfl ?_
              refine zw_push zr_149_26 ?_
              refine zw_push zr_149_29 ?_
              refine zw_3 zr_149_31 rfl ?_
              refine zw_18 zr_149_32 (by omega) ?_
              refine zw_16 zr_149_33 (by omega) ?_
              refine zw_48 (c := 70) (len := 826) zr_149_34 rfl rfl (by omega) (by omega) ?_
              intro x28 ex28
              have bx28 := ib_70_s0 hI0 (k := ((450 + (52 * a0))).toNat) (by omega)
              rw [← ex28] at bx28
              have qx28 : x28 = F70 ((450 + (52 * a0))).toNat := by rw [← hG70]; exact ex28
              clear ex28
              refine zw_9 (L' := [(2, 69), (0, a0), (0, a1), (0, x28)]) zr_149_35 (Nat.le_of_ble_eq_true rfl) rfl ?_
              refine zw_7 zr_149_36 rfl ?_
              refine zw_46r (s := 70) zr_149_37 rfl rfl rfl rfl ?_
              refine zw_push zr_149_40 ?_
              refine zw_push zr_149_43 ?_
              refine zw_3 zr_149_45 rfl ?_
              refine zw_18 zr_149_46 (by omega) ?_
              refine zw_16 zr_149_47 (by omega) ?_
              refine zw_3 zr_149_48 rfl ?_
              refine zw_49 (c := 70) (len := 826) zr_149_49 rfl rfl (by omega) (by omega) ?_
              intro m29 em29
              have hIm29 : zInv m29 := by rw [em29]; exact iu_70_s0 hI0 (by omega) (by omega)
              have hFm29 : zFr W_149 m0 m29 := by rw [em29]; exact hF0.any rfl
              have fm29_70 : m29 70 = zPt F70 (((450 + (52 * a0))).toNat) a1 := by rw [em29]; exact (zUp_ff (m := m0)).trans (congrArg (fun q => zPt q (((450 + (52 * a0))).toNat) a1) hG70)
              clear em29
              refine zw_3 zr_149_50 rfl ?_
              refine zw_R zr_149_51 (by decide) zm_149 (v := (0, x28)) rfl ?_
              rw [← hQ]; exact ⟨_, rfl, by omega, by omega, hIm29, hFm29, by omega, by rw [fm29_70]; first | exact (if_neg (by omega)).symm | exact (if_pos (by omega)).symm⟩
            · intro h32; omega
