abbrev W_106 : List (Nat × Nat) := [(10, 1000), (11, 1000)]
set_option maxHeartbeats 8000000 in
theorem th_106 {E : zE} {d : Nat} {m0 : zM} {a0 : Int} {a1 : Int} {F10 : Nat → Int} {F11 : Nat → Int} (hd : 3 ≤ d) (hI0 : zInv m0) (hG10 : m0 10 = F10) (hG11 : m0 11 = F11) (ha0 : (-2147483648) ≤ a0 ∧ a0 ≤ 2147483647) (ha1 : (-2147483648) ≤ a1 ∧ a1 ≤ 2147483647) : zC E d 106 [(2, 0), (0, a0), (0, a1)] m0 (fun v m' => ∃ r : Int, v = (0, r) ∧ (-4) ≤ r ∧ r ≤ 50 ∧ zInv m' ∧ zFr W_106 m0 m' ∧ ((r = -2 ∧ (a0 < 0 ∨ 3 < a0 ∨ a1 < 0 ∨ 127 < a1)) ∨ (0 ≤ a0 ∧ a0 ≤ 3 ∧ 0 ≤ a1 ∧ a1 ≤ 127 ∧ ((r = -4 ∧ F10 a0.toNat = 50) ∨ (0 ≤ F10 a0.toNat ∧ F10 a0.toNat < 50 ∧ r = F10 a0.toNat + 1)))) ∧ (m' 10 = if 0 ≤ r then zPt F10 a0.toNat (F10 a0.toNat + 1) else F10) ∧ (m' 11 = if 0 ≤ r then zPt F11 (a0 * 50 + F10 a0.toNat).toNat a1 else F11)) := by
  have hF0 : zFr W_106 m0 m0 := zFr.rfl
  generalize hQ : (fun (v : zV) (m' : zM) => ∃ r : Int, v = (0, r) ∧ (-4) ≤ r ∧ r ≤ 50 ∧ zInv m' ∧ zFr W_106 m0 m' ∧ ((r = -2 ∧ (a0 < 0 ∨ 3 < a0 ∨ a1 < 0 ∨ 127 < a1)) ∨ (0 ≤ a0 ∧ a0 ≤ 3 ∧ 0 ≤ a1 ∧ a1 ≤ 127 ∧ ((r = -4 ∧ F10 a0.toNat = 50) ∨ (0 ≤ F10 a0.toNat ∧ F10 a0.toNat < 50 ∧ r = F10 a0.toNat + 1)))) ∧ (m' 10 = if 0 ≤ r then zPt F10 a0.toNat (F10 a0.toNat + 1) else F10) ∧ (m' 11 = if 0 ≤ r then zPt F11 (a0 * 50 + F10 a0.toNat).toNat a1 else F11)) = Q
  show zW E d 106 0 [(2, 0), (0, a0), (0, a1), (9, 0)] [] m0 Q
  refine zw_3 zr_106_0 rfl ?_
  refine zw_C zr_106_1 (Or.inr rfl) zm_104 rfl rfl ⟨Nat.le_of_ble_eq_true rfl, Nat.le_of_ble_eq_true rfl, Nat.le_of_ble_eq_true rfl, rfl, by decide⟩ (by omega) (P := (fun v m' => zW E (d) 106 4 [(2, 0), (0, a0), (0, a1), (9, 0)] (if v.1 = 9 then [] else v :: []) m' Q)) ?_ (fun _ _ h => h)
  generalize hQ1 : (fun v m' => zW E (d) 106 4 [(2, 0), (0, a0), (0, a1), (9, 0)] (if v.1 = 9 then [] else v :: []) m' Q) = Q1
  show zW E (d - 1) 104 0 [(0, a0)] [] m0 Q1
  refine zw_3 zr_104_0 rfl ?_
  refine zw_push zr_104_1 ?_
  refine zw_push zr_104_2 ?_
  refine zw_C zr_104_3 (Or.inr rfl) zm_100 rfl rfl ⟨Nat.le_of_ble_eq_true rfl, Nat.le_of_ble_eq_true rfl, Nat.le_of_ble_eq_true rfl, rfl, by decide⟩ (by omega) (P := (fun v m' => zW E (d - 1) 104 6 [(0, a0)] (if v.1 = 9 then [] else v :: []) m' Q1)) ?_ (fun _ _ h => h)
  generalize hQ2 : (fun v m' => zW E (d - 1) 104 6 [(0, a0)] (if v.1 = 9 then [] else v :: []) m' Q1) = Q2
  show zW E (d - 1 - 1) 100 0 [(0, a0), (0, 0), (0, 3)] [] m0 Q2
  refine zw_3 zr_100_0 rfl ?_
  refine zw_3 zr_100_1 rfl ?_
  refine zw_41_0 zr_100_2 ?_ ?_
  · intro h1
    refine zw_push zr_100_14 ?_
    refine zw_R zr_100_15 (by decide) zm_100 (v := (0, 0)) (zRetB (by omega)) ?_
    rw [← hQ2]
    show zW E (d - 1) 104 6 [(0, a0)] [(0, 0)] m0 Q1
    refine zw_R zr_104_6 (by decide) zm_104 (v := (0, 0)) (zRetB (by omega)) ?_
    rw [← hQ1]
    show zW E (d) 106 4 [(2, 0), (0, a0), (0, a1), (9, 0)] [(0, 0)] m0 Q
    refine zw_40_1 zr_106_4 ?_ ?_
    · intro h2
      refine zw_push zr_106_17 ?_
      refine zw_R zr_106_19 (by decide) zm_106 (v := (0, (-2))) rfl ?_
      rw [← hQ]; exact ⟨_, rfl, by omega, by omega, hI0, hF0, by omega, by rw [hG10]; first | exact (if_neg (by omega)).symm | exact (if_pos (by omega)).symm | (rw [qzz]; first | exact (if_neg (by omega)).symm | exact (if_pos (by omega)).symm), by rw [hG11]; first | exact (if_neg (by omega)).symm | exact (if_pos (by omega)).symm | (rw [qzz]; first | exact (if_neg (by omega)).symm | exact (if_pos (by omega)).symm)⟩
    · intro h6; omega
  · intro h7
    refine zw_3 zr_100_5 rfl ?_
    refine zw_3 zr_100_6 rfl ?_
    refine zw_41_2 zr_100_7 ?_ ?_
    · intro h8
      refine zw_push zr_100_14 ?_
      refine zw_R zr_100_15 (by decide) zm_100 (v := (0, 0)) (zRetB (by omega)) ?_
      rw [← hQ2]
      show zW E (d - 1) 104 6 [(0, a0)] [(0, 0)] m0 Q1
      refine zw_R zr_104_6 (by decide) zm_104 (v := (0, 0)) (zRetB (by omega)) ?_
      rw [← hQ1]
      show zW E (d) 106 4 [(2, 0), (0, a0), (0, a1), (9, 0)] [(0, 0)] m0 Q
      refine zw_40_1 zr_106_4 ?_ ?_
      · intro h9
        refine zw_push zr_106_17 ?_
        refine zw_R zr_106_19 (by decide) zm_106 (v := (0, (-2))) rfl ?_
        rw [← hQ]; exact ⟨_, rfl, by omega, by omega, hI0, hF0, by omega, by rw [hG10]; first | exact (if_neg (by omega)).symm | exact (if_pos (by omega)).symm | (rw [qzz]; first | exact (if_neg (by omega)).symm | exact (if_pos (by omega)).symm), by rw [hG11]; first | exact (if_neg (by omega)).symm | exact (if_pos (by omega)).symm | (rw [qzz]; first | exact (if_neg (by omega)).symm | exact (if_pos (by omega)).symm)⟩
      · intro h13; omega
    · intro h14
      refine zw_push zr_100_10 ?_
      refine zw_42 zr_100_11 ?_
      refine zw_R zr_100_15 (by decide) zm_100 (v := (0, 1)) (zRetB (by omega)) ?_
      rw [← hQ2]
      show zW E (d - 1) 104 6 [(0, a0)] [(0, 1)] m0 Q1
      refine zw_R zr_104_6 (by decide) zm_104 (v := (0, 1)) (zRetB (by omega)) ?_
      rw [← hQ1]
      show zW E (d) 106 4 [(2, 0), (0, a0), (0, a1), (9, 0)] [(0, 1)] m0 Q
      refine zw_40_1 zr_106_4 ?_ ?_
      · intro h15; omega
      · intro h16
        refine zw_3 zr_106_7 rfl ?_
        refine zw_push zr_106_8 ?_
        refine zw_push zr_106_9 ?_
        refine zw_C zr_106_11 (Or.inr rfl) zm_100 rfl rfl ⟨Nat.le_of_ble_eq_true rfl, Nat.le_of_ble_eq_true rfl, Nat.le_of_ble_eq_true rfl, rfl, by decide⟩ (by omega) (P := (fun v m' => zW E (d) 106 14 [(2, 0), (0, a0), (0, a1), (9, 0)] (if v.1 = 9 then [] else v :: []) m' Q)) ?_ (fun _ _ h => h)
        generalize hQ1 : (fun v m' => zW E (d) 106 14 [(2, 0), (0, a0), (0, a1), (9, 0)] (if v.1 = 9 then [] else v :: []) m' Q) = Q1
        show zW E (d - 1) 100 0 [(0, a1), (0, 0), (0, 127)] [] m0 Q1
        refine zw_3 zr_100_0 rfl ?_
        refine zw_3 zr_100_1 rfl ?_
        refine zw_41_0 zr_100_2 ?_ ?_
        · intro h17
          refine zw_push zr_100_14 ?_
          refine zw_R zr_100_15 (by decide) zm_100 (v := (0, 0)) (zRetB (by omega)) ?_
          rw [← hQ1]
          show zW E (d) 106 14 [(2, 0), (0, a0), (0, a1), (9, 0)] [(0, 0)] m0 Q
          refine zw_40_4 zr_106_14 ?_ ?_
          · intro h18; omega
          · intro h19
            refine zw_push zr_106_17 ?_
            refine zw_R zr_106_19 (by decide) zm_106 (v := (0, (-2))) rfl ?_
            rw [← hQ]; exact ⟨_, rfl, by omega, by omega, hI0, hF0, by omega, by rw [hG10]; first | exact (if_neg (by omega)).symm | exact (if_pos (by omega)).symm | (rw [qzz]; first | exact (if_neg (by omega)).symm | exact (if_pos (by omega)).symm), by rw [hG11]; first | exact (if_neg (by omega)).symm | exact (if_pos (by omega)).symm | (rw [qzz]; first | exact (if_neg (by omega)).symm | exact (if_pos (by omega)).symm)⟩
        · intro h23
          refine zw_3 zr_100_5 rfl ?_
          refine zw_3 zr_100_6 rfl ?_
          refine zw_41_2 zr_100_7 ?_ ?_
          · intro h24
            refine zw_push zr_100_14 ?_
            refine zw_R zr_100_15 (by decide) zm_100 (v := (0, 0)) (zRetB (by omega)) ?_
            rw [← hQ1]
            show zW E (d) 106 14 [(2, 0), (0, a0), (0, a1), (9, 0)] [(0, 0)] m0 Q
            refine zw_40_4 zr_106_14 ?_ ?_
            · intro h25; omega
            · intro h26
              refine zw_push zr_106_17 ?_
              refine zw_R zr_106_19 (by decide) zm_106 (v := (0, (-2))) rfl ?_
              rw [← hQ]; exact ⟨_, rfl, by omega, by omega, hI0, hF0, by omega, by rw [hG10]; first | exact (if_neg (by omega)).symm | exact (if_pos (by omega)).symm | (rw [qzz]; first | exact (if_neg (by omega)).symm | exact (if_pos (by omega)).symm), by rw [hG11]; first | exact (if_neg (by omega)).symm | exact (if_pos (by omega)).symm | (rw [qzz]; first | exact (if_neg (by omega)).symm | exact (if_pos (by omega)).symm)⟩
          · intro h30
            refine zw_push zr_100_10 ?_
            refine zw_42 zr_100_11 ?_
            refine zw_R zr_100_15 (by decide) zm_100 (v := (0, 1)) (zRetB (by omega)) ?_
            rw [← hQ1]
            show zW E (d) 106 14 [(2, 0), (0, a0), (0, a1), (9, 0)] [(0, 1)] m0 Q
            refine zw_40_4 zr_106_14 ?_ ?_
            · intro h31
              refine zw_7 zr_106_20 rfl ?_
              refine zw_46r (s := 1) zr_106_21 rfl rfl rfl rfl ?_
              refine zw_46r (s := 10) zr_106_24 rfl rfl rfl rfl ?_
              refine zw_3 zr_106_27 rfl ?_
              refine zw_48 (c := 10) (len := 4) zr_106_28 rfl rfl (by omega) (by omega) ?_
              intro x32 ex32
              have bx32 := ib_10 hI0 (k := (a0).toNat) (by omega)
              rw [← ex32] at bx32
              have qx32 : x32 = F10 (a0).toNat := by rw [← hG10]; exact ex32
              clear ex32
              refine zw_9 (L' := [(2, 0), (0, a0), (0, a1), (0, x32)]) zr_106_29 (Nat.le_of_ble_eq_true rfl) rfl ?_
              refine zw_3 zr_106_30 rfl ?_
              refine zw_push zr_106_31 ?_
              refine zw_41_0 zr_106_33 ?_ ?_
              · intro h33
                refine zw_7 zr_106_39 rfl ?_
                refine zw_46r (s := 1) zr_106_40 rfl rfl rfl rfl ?_
                refine zw_46r (s := 11) zr_106_43 rfl rfl rfl rfl ?_
                refine zw_3 zr_106_46 rfl ?_
                refine zw_push zr_106_47 ?_
                refine zw_18 zr_106_49 (by omega) ?_
                refine zw_3 zr_106_50 rfl ?_
                refine zw_16 zr_106_51 (by omega) ?_
                refine zw_3 zr_106_52 rfl ?_
                refine zw_49 (c := 11) (len := 200) zr_106_53 rfl rfl (by omega) (by omega) ?_
                intro m34 em34
                have hIm34 : zInv m34 := by rw [em34]; exact iu_11 hI0 (by omega)
                have hFm34 : zFr W_106 m0 m34 := by rw [em34]; exact hF0.any rfl
                have fm34_10 : m34 10 = F10 := by rw [em34, zUp_fn (by decide)]; exact hG10
                have fm34_11 : m34 11 = zPt F11 ((((a0 * 50) + x32)).toNat) a1 := by rw [em34]; exact (zUp_ff (m := m0)).trans (congrArg (fun q => zPt q ((((a0 * 50) + x32)).toNat) a1) hG11)
                clear em34
                refine zw_7 zr_106_54 rfl ?_
                refine zw_46r (s := 1) zr_106_55 rfl rfl rfl rfl ?_
                refine zw_46r (s := 10) zr_106_58 rfl rfl rfl rfl ?_
                refine zw_3 zr_106_61 rfl ?_
                refine zw_3 zr_106_62 rfl ?_
                refine zw_push zr_106_63 ?_
                refine zw_16 zr_106_64 (by omega) ?_
                refine zw_49 (c := 10) (len := 4) zr_106_65 rfl rfl (by omega) (by omega) ?_
                intro m35 em35
                have hIm35 : zInv m35 := by rw [em35]; exact iu_10 hIm34 (by omega)
                have hFm35 : zFr W_106 m0 m35 := by rw [em35]; exact hFm34.any rfl
                have fm35_10 : m35 10 = zPt F10 ((a0).toNat) ((x32 + 1)) := by rw [em35]; exact (zUp_ff (m := m34)).trans (congrArg (fun q => zPt q ((a0).toNat) ((x32 + 1))) fm34_10)
                have fm35_11 : m35 11 = zPt F11 ((((a0 * 50) + x32)).toNat) a1 := by rw [em35, zUp_fn (by decide)]; exact fm34_11
                clear em35
                refine zw_3 zr_106_66 rfl ?_
                refine zw_push zr_106_67 ?_
                refine zw_16 zr_106_68 (by omega) ?_
                refine zw_R zr_106_69 (by decide) zm_106 (v := (0, (x32 + 1))) rfl ?_
                rw [← hQ]; exact ⟨_, rfl, by omega, by omega, hIm35, hFm35, by omega, by rw [fm35_10]; first | exact (if_neg (by omega)).symm | exact (if_pos (by omega)).symm | (rw [qx32]; first | exact (if_neg (by omega)).symm | exact (if_pos (by omega)).symm), by rw [fm35_11]; first | exact (if_neg (by omega)).symm | exact (if_pos (by omega)).symm | (rw [qx32]; first | exact (if_neg (by omega)).symm | exact (if_pos (by omega)).symm)⟩
              · intro h39
                refine zw_push zr_106_36 ?_
                refine zw_R zr_106_38 (by decide) zm_106 (v := (0, (-4))) rfl ?_
                rw [← hQ]; exact ⟨_, rfl, by omega, by omega, hI0, hF0, by omega, by rw [hG10]; first | exact (if_neg (by omega)).symm | exact (if_pos (by omega)).symm | (rw [qx32]; first | exact (if_neg (by omega)).symm | exact (if_pos (by omega)).symm), by rw [hG11]; first | exact (if_neg (by omega)).symm | exact (if_pos (by omega)).symm | (rw [qx32]; first | exact (if_neg (by omega)).symm | exact (if_pos (by omega)).symm)⟩
            · intro h43; omega

abbrev W_150 : List (Nat × Nat) := [(70, 1000)]
set_option maxHeartbeats 8000000 in
theorem th_150 {E : zE} {d : Nat} {m0 : zM} {a0 : Int} {a1 : Int} {F70 : Nat → Int} (hd : 3 ≤ d) (hI0 : zInv m0) (hG70 : m0 70 = F70) (ha0 : (-2147483648) ≤ a0 ∧ a0 ≤ 2147483647) (ha1 : (-2147483648) ≤ a1 ∧ a1 ≤ 2147483647) : zC E d 150 [(2, 69), (0, a0), (0, a1)] m0 (fun v m' => ∃ r : Int, v = (0, r) ∧ (-4) ≤ r ∧ r ≤ 50 ∧ zInv m' ∧ zFr W_150 m0 m' ∧ ((r = -2 ∧ (a0 < 0 ∨ 3 < a0 ∨ a1 < 0 ∨ 127 < a1)) ∨ (0 ≤ a0 ∧ a0 ≤ 3 ∧ 0 ≤ a1 ∧ a1 ≤ 127 ∧ ((r = -4 ∧ F70 (450 + 52 * a0 + 1).toNat = 50) ∨ (0 ≤ F70 (450 + 52 * a0 + 1).toNat ∧ F70 (450 + 52 * a0 + 1).toNat < 50 ∧ r = F70 (450 + 52 * a0 + 1).toNat + 1)))) ∧ (m' 70 = if 0 ≤ r then zPt (zPt F70 (450 + 52 * a0 + 2 + F70 (450 + 52 * a0 + 1).toNat).toNat a1) (450 + 52 * a0 + 1).toNat (F70 (450 + 52 * a0 + 1).toNat + 1) else F70)) := by
  have hF0 : zFr W_150 m0 m0 := zFr.rfl
  generalize hQ : (fun (v : zV) (m' : zM) => ∃ r : Int, v = (0, r) ∧ (-4) ≤ r ∧ r ≤ 50 ∧ zInv m' ∧ zFr W_150 m0 m' ∧ ((r = -2 ∧ (a0 < 0 ∨ 3 < a0 ∨ a1 < 0 ∨ 127 < a1)) ∨ (0 ≤ a0 ∧ a0 ≤ 3 ∧ 0 ≤ a1 ∧ a1 ≤ 127 ∧ ((r = -4 ∧ F70 (450 + 52 * a0 + 1).toNat = 50) ∨ (0 ≤ F70 (450 + 52 * a0 + 1).toNat ∧ F70 (450 + 52 * a0 + 1).toNat < 50 ∧ r = F70 (450 + 52 * a0 + 1).toNat + 1)))) ∧ (m' 70 = if 0 ≤ r then zPt (zPt F70 (450 + 52 * a0 + 2 + F70 (450 + 52 * a0 + 1).toNat).toNat a1) (450 + 52 * a0 + 1).toNat (F70 (450 + 52 * a0 + 1).toNat + 1) else F70)) = Q
  show zW E d 150 0 [(2, 69), (0, a0), (0, a1), (9, 0)] [] m0 Q
  refine zw_3 zr_150_0 rfl ?_
  refine zw_C zr_150_1 (Or.inr rfl) zm_148 rfl rfl ⟨Nat.le_of_ble_eq_true rfl, Nat.le_of_ble_eq_true rfl, Nat.le_of_ble_eq_true rfl, rfl, by decide⟩ (by omega) (P := (fun v m' => zW E (d) 150 4 [(2, 69), (0, a0), (0, a1), (9, 0)] (if v.1 = 9 then [] else v :: []) m' Q)) ?_ (fun _ _ h => h)
  generalize hQ1 : (fun v m' => zW E (d) 150 4 [(2, 69), (0, a0), (0, a1), (9, 0)] (if v.1 = 9 then [] else v :: []) m' Q) = Q1
  show zW E (d - 1) 148 0 [(0, a0)] [] m0 Q1
  refine zw_3 zr_148_0 rfl ?_
  refine zw_36 zr_148_1 ?_
  refine zw_push zr_148_2 ?_
  refine zw_push zr_148_3 ?_
  refine zw_C zr_148_6 (Or.inr rfl) zm_140 rfl rfl ⟨Nat.le_of_ble_eq_true rfl, Nat.le_of_ble_eq_true rfl, Nat.le_of_ble_eq_true rfl, rfl, by decide⟩ (by omega) (P := (fun v m' => zW E (d - 1) 148 9 [(0, a0)] (if v.1 = 9 then [] else v :: []) m' Q1)) ?_ (fun _ _ h => h)
  generalize hQ2 : (fun v m' => zW E (d - 1) 148 9 [(0, a0)] (if v.1 = 9 then [] else v :: []) m' Q1) = Q2
  show zW E (d - 1 - 1) 140 0 [(1, a0), (9, 0), (1, 0), (9, 0), (1, 3), (9, 0)] [] m0 Q2
  refine zw_5 zr_140_0 rfl ?_
  refine zw_5 zr_140_1 rfl ?_
  refine zw_39_0 zr_140_2 zr_140_3 ?_ ?_
  · intro h1
    refine zw_push zr_140_17 ?_
    refine zw_R zr_140_18 (by decide) zm_140 (v := (0, 0)) (zRetB (by omega)) ?_
    rw [← hQ2]
    show zW E (d - 1) 148 9 [(0, a0)] [(0, 0)] m0 Q1
    refine zw_R zr_148_9 (by decide) zm_148 (v := (0, 0)) (zRetB (by omega)) ?_
    rw [← hQ1]
    show zW E (d) 150 4 [(2, 69), (0, a0), (0, a1), (9, 0)] [(0, 0)] m0 Q
    refine zw_40_1 zr_150_4 ?_ ?_
    · intro h2
      refine zw_push zr_150_19 ?_
      refine zw_R zr_150_21 (by decide) zm_150 (v := (0, (-2))) rfl ?_
      rw [← hQ]; exact ⟨_, rfl, by omega, by omega, hI0, hF0, by omega, by rw [hG70]; first | exact (if_neg (by omega)).symm | exact (if_pos (by omega)).symm | (rw [qzz]; first | exact (if_neg (by omega)).symm | exact (if_pos (by omega)).symm)⟩
    · intro h5; omega
  · intro h6
    refine zw_5 zr_140_6 rfl ?_
    refine zw_6 zr_140_7 rfl ?_
    refine zw_39_2 zr_140_9 zr_140_10 ?_ ?_
    · intro h7
      refine zw_push zr_140_17 ?_
      refine zw_R zr_140_18 (by decide) zm_140 (v := (0, 0)) (zRetB (by omega)) ?_
      rw [← hQ2]
      show zW E (d - 1) 148 9 [(0, a0)] [(0, 0)] m0 Q1
      refine zw_R zr_148_9 (by decide) zm_148 (v := (0, 0)) (zRetB (by omega)) ?_
      rw [← hQ1]
      show zW E (d) 150 4 [(2, 69), (0, a0), (0, a1), (9, 0)] [(0, 0)] m0 Q
      refine zw_40_1 zr_150_4 ?_ ?_
      · intro h8
        refine zw_push zr_150_19 ?_
        refine zw_R zr_150_21 (by decide) zm_150 (v := (0, (-2))) rfl ?_
        rw [← hQ]; exact ⟨_, rfl, by omega, by omega, hI0, hF0, by omega, by rw [hG70]; first | exact (if_neg (by omega)).symm | exact (if_pos (by omega)).symm | (rw [qzz]; first | exact (if_neg (by omega)).symm | exact (if_pos (by omega)).symm)⟩
      · intro h11; omega
    · intro h12
      refine zw_push zr_140_13 ?_
      refine zw_42 zr_140_14 ?_
      refine zw_R zr_140_18 (by decide) zm_140 (v := (0, 1)) (zRetB (by omega)) ?_
      rw [← hQ2]
      show zW E (d - 1) 148 9 [(0, a0)] [(0, 1)] m0 Q1
      refine zw_R zr_148_9 (by decide) zm_148 (v := (0, 1)) (zRetB (by omega)) ?_
      rw [← hQ1]
      show zW E (d) 150 4 [(2, 69), (0, a0), (0, a1), (9, 0)] [(0, 1)] m0 Q
      refine zw_40_1 zr_150_4 ?_ ?_
      · intro h13; omega
      · intro h14
        refine zw_3 zr_150_7 rfl ?_
        refine zw_36 zr_150_8 ?_
        refine zw_push zr_150_9 ?_
        refine zw_push zr_150_10 ?_
        refine zw_C zr_150_13 (Or.inr rfl) zm_140 rfl rfl ⟨Nat.le_of_ble_eq_true rfl, Nat.le_of_ble_eq_true rfl, Nat.le_of_ble_eq_true rfl, rfl, by decide⟩ (by omega) (P := (fun v m' => zW E (d) 150 16 [(2, 69), (0, a0), (0, a1), (9, 0)] (if v.1 = 9 then [] else v :: []) m' Q)) ?_ (fun _ _ h => h)
        generalize hQ1 : (fun v m' => zW E (d) 150 16 [(2, 69), (0, a0), (0, a1), (9, 0)] (if v.1 = 9 then [] else v :: []) m' Q) = Q1
        show zW E (d - 1) 140 0 [(1, a1), (9, 0), (1, 0), (9, 0), (1, 127), (9, 0)] [] m0 Q1
        refine zw_5 zr_140_0 rfl ?_
        refine zw_5 zr_140_1 rfl ?_
        refine zw_39_0 zr_140_2 zr_140_3 ?_ ?_
        · intro h15
          refine zw_push zr_140_17 ?_
          refine zw_R zr_140_18 (by decide) zm_140 (v := (0, 0)) (zRetB (by omega)) ?_
          rw [← hQ1]
          show zW E (d) 150 16 [(2, 69), (0, a0), (0, a1), (9, 0)] [(0, 0)] m0 Q
          refine zw_40_4 zr_150_16 ?_ ?_
          · intro h16; omega
          · intro h17
            refine zw_push zr_150_19 ?_
            refine zw_R zr_150_21 (by decide) zm_150 (v := (0, (-2))) rfl ?_
            rw [← hQ]; exact ⟨_, rfl, by omega, by omega, hI0, hF0, by omega, by rw [hG70]; first | exact (if_neg (by omega)).symm | exact (if_pos (by omega)).symm | (rw [qzz]; first | exact (if_neg (by omega)).symm | exact (if_pos (by omega)).symm)⟩
        · intro h20
          refine zw_5 zr_140_6 rfl ?_
          refine zw_6 zr_140_7 rfl ?_
          refine zw_39_2 zr_140_9 zr_140_10 ?_ ?_
          · intro h21
            refine zw_push zr_140_17 ?_
            refine zw_R zr_140_18 (by decide) zm_140 (v := (0, 0)) (zRetB (by omega)) ?_
            rw [← hQ1]
            show zW E (d) 150 16 [(2, 69), (0, a0), (0, a1), (9, 0)] [(0, 0)] m0 Q
            refine zw_40_4 zr_150_16 ?_ ?_
            · intro h22; omega
            · intro h23
              refine zw_push zr_150_19 ?_
              refine zw_R zr_150_21 (by decide) zm_150 (v := (0, (-2))) rfl ?_
              rw [← hQ]; exact ⟨_, rfl, by omega, by omega, hI0, hF0, by omega, by rw [hG70]; first | exact (if_neg (by omega)).symm | exact (if_pos (by omega)).symm | (rw [qzz]; first | exact (if_neg (by omega)).symm | exact (if_pos (by omega)).symm)⟩
          · intro h26
            refine zw_push zr_140_13 ?_
            refine zw_42 zr_140_14 ?_
            refine zw_R zr_140_18 (by decide) zm_140 (v := (0, 1)) (zRetB (by omega)) ?_
            rw [← hQ1]
            show zW E (d) 150 16 [(2, 69), (0, a0), (0, a1), (9, 0)] [(0, 1)] m0 Q
            refine zw_40_4 zr_150_16 ?_ ?_
            · intro h27
              refine zw_7 zr_150_22 rfl ?_
              refine zw_46r (s := 70) zr_150_23 rfl rfl rfl rfl ?_
              refine zw_push zr_150_26 ?_
              refine zw_push zr_150_29 ?_
              refine zw_3 zr_150_31 rfl ?_
              refine zw_18 zr_150_32 (by omega) ?_
              refine zw_16 zr_150_33 (by omega) ?_
              refine zw_push zr_150_34 ?_
              refine zw_16 zr_150_35 (by omega) ?_
              refine zw_48 (c := 70) (len := 826) zr_150_36 rfl rfl (by omega) (by omega) ?_
              intro x28 ex28
              have bx28 := ib_70_s1 hI0 (k := (((450 + (52 * a0)) + 1)).toNat) (by omega)
              rw [← ex28] at bx28
              have qx28 : x28 = F70 (((450 + (52 * a0)) + 1)).toNat := by rw [← hG70]; exact ex28
              clear ex28
              refine zw_9 (L' := [(2, 69), (0, a0), (0, a1), (0, x28)]) zr_150_37 (Nat.le_of_ble_eq_true rfl) rfl ?_
              refine zw_3 zr_150_38 rfl ?_
              refine zw_push zr_150_39 ?_
              refine zw_41_4 zr_150_41 ?_ ?_
              · intro h29
                refine zw_7 zr_150_47 rfl ?_
                refine zw_46r (s := 70) zr_150_48 rfl rfl rfl rfl ?_
                refine zw_push zr_150_51 ?_
                refine zw_push zr_150_54 ?_
                refine zw_3 zr_150_56 rfl ?_
                refine zw_18 zr_150_57 (by omega) ?_
                refine zw_16 zr_150_58 (by omega) ?_
                refine zw_push zr_150_59 ?_
                refine zw_16 zr_150_60 (by omega) ?_
                refine zw_3 zr_150_61 rfl ?_
                refine zw_16 zr_150_62 (by omega) ?_
                refine zw_3 zr_150_63 rfl ?_
                refine zw_49 (c := 70) (len := 826) zr_150_64 rfl rfl (by omega) (by omega) ?_
                intro m30 em30
                have hIm30 : zInv m30 := by rw [em30]; exact iu_70_s2 hI0 (by omega) (by omega)
                have hFm30 : zFr W_150 m0 m30 := by rw [em30]; exact hF0.any rfl
                have fm30_70 : m30 70 = zPt F70 (((((450 + (52 * a0)) + 2) + x28)).toNat) a1 := by rw [em30]; exact (zUp_ff (m := m0)).trans (congrArg (fun q => zPt q (((((450 + (52 * a0)) + 2) + x28)).toNat) a1) hG70)
                clear em30
                refine zw_7 zr_150_65 rfl ?_
                refine zw_46r (s := 70) zr_150_66 rfl rfl rfl rfl ?_
                refine zw_push zr_150_69 ?_
                refine zw_push zr_150_72 ?_
                refine zw_3 zr_150_74 rfl ?_
                refine zw_18 zr_150_75 (by omega) ?_
                refine zw_16 zr_150_76 (by omega) ?_
                refine zw_push zr_150_77 ?_
                refine zw_16 zr_150_78 (by omega) ?_
                refine zw_3 zr_150_79 rfl ?_
                refine zw_push zr_150_80 ?_
                refine zw_16 zr_150_81 (by omega) ?_
                refine zw_49 (c := 70) (len := 826) zr_150_82 rfl rfl (by omega) (by omega) ?_
                intro m31 em31
                have hIm31 : zInv m31 := by rw [em31]; exact iu_70_s1 hIm30 (by omega) (by omega)
                have hFm31 : zFr W_150 m0 m31 := by rw [em31]; exact hFm30.any rfl
                have fm31_70 : m31 70 = zPt (zPt F70 (((((450 + (52 * a0)) + 2) + x28)).toNat) a1) ((((450 + (52 * a0)) + 1)).toNat) ((x28 + 1)) := by rw [em31]; exact (zUp_ff (m := m30)).trans (congrArg (fun q => zPt q ((((450 + (52 * a0)) + 1)).toNat) ((x28 + 1))) fm30_70)
                clear em31
                refine zw_3 zr_150_83 rfl ?_
                refine zw_push zr_150_84 ?_
                refine zw_16 zr_150_85 (by omega) ?_
                refine zw_R zr_150_86 (by decide) zm_150 (v := (0, (x28 + 1))) rfl ?_
                rw [← hQ]; exact ⟨_, rfl, by omega, by omega, hIm31, hFm31, by omega, by rw [fm31_70]; first | exact (if_neg (by omega)).symm | exact (if_pos (by omega)).symm | (rw [qx28]; first | exact (if_neg (by omega)).symm | exact (if_pos (by omega)).symm)⟩
              · intro h34
                refine zw_push zr_150_44 ?_
                refine zw_R zr_150_46 (by decide) zm_150 (v := (0, (-4))) rfl ?_
                rw [← hQ]; exact ⟨_, rfl, by omega, by omega, hI0, hF0, by omega, by rw [hG70]; first | exact (if_neg (by omega)).symm | exact (if_pos (by omega)).symm | (rw [qx28]; first | exact (if_neg (by omega)).symm | exact (if_pos (by omega)).symm)⟩
            · intro h37; omega

abbrev W_107 : List (Nat × Nat) := [(10, 1000)]
set_option maxHeartbeats 8000000 in
theorem th_107 {E : zE} {d : Nat} {m0 : zM} {a0 : Int} {F10 : Nat → Int} (hd : 3 ≤ d) (hI0 : zInv m0) (hG10 : m0 10 = F10) (ha0 : (-2147483648) ≤ a0 ∧ a0 ≤ 2147483647) : zC E d 107 [(2, 0), (0, a0)] m0 (fun v m' => ∃ r : Int, v = (0, r) ∧ (-2) ≤ r ∧ r ≤ 50 ∧ zInv m' ∧ zFr W_107 m0 m' ∧ ((r = -2 ∧ (a0 < 0 ∨ 3 < a0)) ∨ (0 ≤ a0 ∧ a0 ≤ 3 ∧ 0 ≤ r ∧ r = F10 a0.toNat)) ∧ (m' 10 = if 0 ≤ r then zPt F10 a0.toNat 0 else F10)) := by
  have hF0 : zFr W_107 m0 m0 := zFr.rfl
  generalize hQ : (fun (v : zV) (m' : zM) => ∃ r : Int, v = (0, r) ∧ (-2) ≤ r ∧ r ≤ 50 ∧ zInv m' ∧ zFr W_107 m0 m' ∧ ((r = -2 ∧ (a0 < 0 ∨ 3 < a0)) ∨ (0 ≤ a0 ∧ a0 ≤ 3 ∧ 0 ≤ r ∧ r = F10 a0.toNat)) ∧ (m' 10 = if 0 ≤ r then zPt F10 a0.toNat 0 else F10)) = Q
  show zW E d 107 0 [(2, 0), (0, a0), (9, 0)] [] m0 Q
  refine zw_3 zr_107_0 rfl ?_
  refine zw_C zr_107_1 (Or.inr rfl) zm_104 rfl rfl ⟨Nat.le_of_ble_eq_true rfl, Nat.le_of_ble_eq_true rfl, Nat.le_of_ble_eq_true rfl, rfl, by decide⟩ (by omega) (P := (fun v m' => zW E (d) 107 4 [(2, 0), (0, a0), (9, 0)] (if v.1 = 9 then [] else v :: []) m' Q)) ?_ (fun _ _ h => h)
  generalize hQ1 : (fun v m' => zW E (d) 107 4 [(2, 0), (0, a0), (9, 0)] (if v.1 = 9 then [] else v :: []) m' Q) = Q1
  show zW E (d - 1) 104 0 [(0, a0)] [] m0 Q1
  refine zw_3 zr_104_0 rfl ?_
  refine zw_push zr_104_1 ?_
  refine zw_push zr_104_2 ?_
  refine zw_C zr_104_3 (Or.inr rfl) zm_100 rfl rfl ⟨Nat.le_of_ble_eq_true rfl, Nat.le_of_ble_eq_true rfl, Nat.le_of_ble_eq_true rfl, rfl, by decide⟩ (by omega) (P := (fun v m' => zW E (d - 1) 104 6 [(0, a0)] (if v.1 = 9 then [] else v :: []) m' Q1)) ?_ (fun _ _ h => h)
  generalize hQ2 : (fun v m' => zW E (d - 1) 104 6 [(0, a0)] (if v.1 = 9 then [] else v :: []) m' Q1) = Q2
  show zW E (d - 1 - 1) 100 0 [(0, a0), (0, 0), (0, 3)] [] m0 Q2
  refine zw_3 zr_100_0 rfl ?_
  refine zw_3 zr_100_1 rfl ?_
  refine zw_41_0 zr_100_2 ?_ ?_
  · intro h1
    refine zw_push zr_100_14 ?_
    refine zw_R zr_100_15 (by decide) zm_100 (v := (0, 0)) (zRetB (by omega)) ?_
    rw [← hQ2]
    show zW E (d - 1) 104 6 [(0, a0)] [(0, 0)] m0 Q1
    refine zw_R zr_104_6 (by decide) zm_104 (v := (0, 0)) (zRetB (by omega)) ?_
    rw [← hQ1]
    show zW E (d) 107 4 [(2, 0), (0, a0), (9, 0)] [(0, 0)] m0 Q
    refine zw_40_4 zr_107_4 ?_ ?_
    · intro h2; omega
    · intro h3
      refine zw_push zr_107_7 ?_
      refine zw_R zr_107_9 (by decide) zm_107 (v := (0, (-2))) rfl ?_
      rw [← hQ]; exact ⟨_, rfl, by omega, by omega, hI0, hF0, by omega, by rw [hG10]; first | exact (if_neg (by omega)).symm | exact (if_pos (by omega)).symm⟩
  · intro h6
    refine zw_3 zr_100_5 rfl ?_
    refine zw_3 zr_100_6 rfl ?_
    refine zw_41_2 zr_100_7 ?_ ?_
    · intro h7
      refine zw_push zr_100_14 ?_
      refine zw_R zr_100_15 (by decide) zm_100 (v := (0, 0)) (zRetB (by omega)) ?_
      rw [← hQ2]
      show zW E (d - 1) 104 6 [(0, a0)] [(0, 0)] m0 Q1
      refine zw_R zr_104_6 (by decide) zm_104 (v := (0, 0)) (zRetB (by omega)) ?_
      rw [← hQ1]
      show zW E (d) 107 4 [(2, 0), (0, a0), (9, 0)] [(0, 0)] m0 Q
      refine zw_40_4 zr_107_4 ?_ ?_
      · intro h8; omega
      · intro h9
        refine zw_push zr_107_7 ?_
        refine zw_R zr_107_9 (by decide) zm_107 (v := (0, (-2))) rfl ?_
        rw [← hQ]; exact ⟨_, rfl, by omega, by omega, hI0, hF0, by omega, by rw [hG10]; first | exact (if_neg (by omega)).symm | exact (if_pos (by omega)).symm⟩
    · intro h12
      refine zw_push zr_100_10 ?_
      refine zw_42 zr_100_11 ?_
      refine zw_R zr_100_15 (by decide) zm_100 (v := (0, 1)) (zRetB (by omega)) ?_
      rw [← hQ2]
      show zW E (d - 1) 104 6 [(0, a0)] [(0, 1)] m0 Q1
      refine zw_R zr_104_6 (by decide) zm_104 (v := (0, 1)) (zRetB (by omega)) ?_
      rw [← hQ1]
      show zW E (d) 107 4 [(2, 0), (0, a0), (9, 0)] [(0, 1)] m0 Q
      refine zw_40_4 zr_107_4 ?_ ?_
      · intro h13
        refine zw_7 zr_107_10 rfl ?_
        refine zw_46r (s := 1) zr_107_11 rfl rfl rfl rfl ?_
        refine zw_46r (s := 10) zr_107_14 rfl rfl rfl rfl ?_
        refine zw_3 zr_107_17 rfl ?_
        refine zw_48 (c := 10) (len := 4) zr_107_18 rfl rfl (by omega) (by omega) ?_
        intro x14 ex14
        have bx14 := ib_10 hI0 (k := (a0).toNat) (by omega)
        rw [← ex14] at bx14
        have qx14 : x14 = F10 (a0).toNat := by rw [← hG10]; exact ex14
        clear ex14
        refine zw_9 (L' := [(2, 0), (0, a0), (0, x14)]) zr_107_19 (Nat.le_of_ble_eq_true rfl) rfl ?_
        refine zw_7 zr_107_20 rfl ?_
        refine zw_46r (s := 1) zr_107_21 rfl rfl rfl rfl ?_
        refine zw_46r (s := 10) zr_107_24 rfl rfl rfl rfl ?_
        refine zw_3 zr_107_27 rfl ?_
        refine zw_push zr_107_28 ?_
        refine zw_49 (c := 10) (len := 4) zr_107_29 rfl rfl (by omega) (by omega) ?_
        intro m15 em15
        have hIm15 : zInv m15 := by rw [em15]; exact iu_10 hI0 (by omega)
        have hFm15 : zFr W_107 m0 m15 := by rw [em15]; exact hF0.any rfl
        have fm15_10 : m15 10 = zPt F10 ((a0).toNat) 0 := by rw [em15]; exact (zUp_ff (m := m0)).trans (congrArg (fun q => zPt q ((a0).toNat) 0) hG10)
        clear em15
        refine zw_3 zr_107_30 rfl ?_
        refine zw_R zr_107_31 (by decide) zm_107 (v := (0, x14)) rfl ?_
        rw [← hQ]; exact ⟨_, rfl, by omega, by omega, hIm15, hFm15, by omega, by rw [fm15_10]; first | exact (if_neg (by omega)).symm | exact (if_pos (by omega)).symm⟩
      · intro h18; omega

abbrev W_151 : List (Nat × Nat) := [(70, 1000)]
set_option maxHeartbeats 8000000 in
theorem th_151 {E : zE} {d : Nat} {m0 : zM} {a0 : Int} {F70 : Nat → Int} (hd : 3 ≤ d) (hI0 : zInv m0) (hG70 : m0 70 = F70) (ha0 : (-2147483648) ≤ a0 ∧ a0 ≤ 2147483647) : zC E d 151 [(2, 69), (0, a0)] m0 (fun v m' => ∃ r : Int, v = (0, r) ∧ (-2) ≤ r ∧ r ≤ 50 ∧ zInv m' ∧ zFr W_151 m0 m' ∧ ((r = -2 ∧ (a0 < 0 ∨ 3 < a0)) ∨ (0 ≤ a0 ∧ a0 ≤ 3 ∧ 0 ≤ r ∧ r = F70 (450 + 52 * a0 + 1).toNat)) ∧ (m' 70 = if 0 ≤ r then zPt F70 (450 + 52 * a0 + 1).toNat 0 else F70)) := by
  have hF0 : zFr W_151 m0 m0 := zFr.rfl
  generalize hQ : (fun (v : zV) (m' : zM) => ∃ r : Int, v = (0, r) ∧ (-2) ≤ r ∧ r ≤ 50 ∧ zInv m' ∧ zFr W_151 m0 m' ∧ ((r = -2 ∧ (a0 < 0 ∨ 3 < a0)) ∨ (0 ≤ a0 ∧ a0 ≤ 3 ∧ 0 ≤ r ∧ r = F70 (450 + 52 * a0 + 1).toNat)) ∧ (m' 70 = if 0 ≤ r then zPt F70 (450 + 52 * a0 + 1).toNat 0 else F70)) = Q
  show zW E d 151 0 [(2, 69), (0, a0), (9, 0)] [] m0 Q
  refine zw_3 zr_151_0 rfl ?_
  refine zw_C zr_151_1 (Or.inr rfl) zm_148 rfl rfl ⟨Nat.le_of_ble_eq_true rfl, Nat.le_of_ble_eq_true rfl, Nat.le_of_ble_eq_true rfl, rfl, by decide⟩ (by omega) (P := (fun v m' => zW E (d) 151 4 [(2, 69), (0, a0), (9, 0)] (if v.1 = 9 then [] else v :: []) m' Q)) ?_ (fun _ _ h => h)
  generalize hQ1 : (fun v m' => zW E (d) 151 4 [(2, 69), (0, a0), (9, 0)] (if v.1 = 9 then [] else v :: []) m' Q) = Q1
  show zW E (d - 1) 148 0 [(0, a0)] [] m0 Q1
  refine zw_3 zr_148_0 rfl ?_
  refine zw_36 zr_148_1 ?_
  refine zw_push zr_148_2 ?_
  refine zw_push zr_148_3 ?_
  refine zw_C zr_148_6 (Or.inr rfl) zm_140 rfl rfl ⟨Nat.le_of_ble_eq_true rfl, Nat.le_of_ble_eq_true rfl, Nat.le_of_ble_eq_true rfl, rfl, by decide⟩ (by omega) (P := (fun v m' => zW E (d - 1) 148 9 [(0, a0)] (if v.1 = 9 then [] else v :: []) m' Q1)) ?_ (fun _ _ h => h)
  generalize hQ2 : (fun v m' => zW E (d - 1) 148 9 [(0, a0)] (if v.1 = 9 then [] else v :: []) m' Q1) = Q2
  show zW E (d - 1 - 1) 140 0 [(1, a0), (9, 0), (1, 0), (9, 0), (1, 3), (9, 0)] [] m0 Q2
  refine zw_5 zr_140_0 rfl ?_
  refine zw_5 zr_140_1 rfl ?_
  refine zw_39_0 zr_140_2 zr_140_3 ?_ ?_
  · intro h1
    refine zw_push zr_140_17 ?_
    refine zw_R zr_140_18 (by decide) zm_140 (v := (0, 0)) (zRetB (by omega)) ?_
    rw [← hQ2]
    show zW E (d - 1) 148 9 [(0, a0)] [(0, 0)] m0 Q1
    refine zw_R zr_148_9 (by decide) zm_148 (v := (0, 0)) (zRetB (by omega)) ?_
    rw [← hQ1]
    show zW E (d) 151 4 [(2, 69), (0, a0), (9, 0)] [(0, 0)] m0 Q
    refine zw_40_4 zr_151_4 ?_ ?_
    · intro h2; omega
    · intro h3
      refine zw_push zr_151_7 ?_
      refine zw_R zr_151_9 (by decide) zm_151 (v := (0, (-2))) rfl ?_
      rw [← hQ]; exact ⟨_, rfl, by omega, by omega, hI0, hF0, by omega, by rw [hG70]; first | exact (if_neg (by omega)).symm | exact (if_pos (by omega)).symm⟩
  · intro h6
    refine zw_5 zr_140_6 rfl ?_
    refine zw_6 zr_140_7 rfl ?_
    refine zw_39_2 zr_140_9 zr_140_10 ?_ ?_
    · intro h7
      refine zw_push zr_140_17 ?_
      refine zw_R zr_140_18 (by decide) zm_140 (v := (0, 0)) (zRetB (by omega)) ?_
      rw [← hQ2]
      show zW E (d - 1) 148 9 [(0, a0)] [(0, 0)] m0 Q1
      refine zw_R zr_148_9 (by decide) zm_148 (v := (0, 0)) (zRetB (by omega)) ?_
      rw [← hQ1]
      show zW E (d) 151 4 [(2, 69), (0, a0), (9, 0)] [(0, 0)] m0 Q
      refine zw_40_4 zr_151_4 ?_ ?_
      · intro h8; omega
      · intro h9
        refine zw_push zr_151_7 ?_
        refine zw_R zr_151_9 (by decide) zm_151 (v := (0, (-2))) rfl ?_
        rw [← hQ]; exact ⟨_, rfl, by omega, by omega, hI0, hF0, by omega, by rw [hG70]; first | exact (if_neg (by omega)).symm | exact (if_pos (by omega)).symm⟩
    · intro h12
      refine zw_push zr_140_13 ?_
      refine zw_42 zr_140_14 ?_
      refine zw_R zr_140_18 (by decide) zm_140 (v := (0, 1)) (zRetB (by omega)) ?_
      rw [← hQ2]
      show zW E (d - 1) 148 9 [(0, a0)] [(0, 1)] m0 Q1
      refine zw_R zr_148_9 (by decide) zm_148 (v := (0, 1)) (zRetB (by omega)) ?_
      rw [← hQ1]
      show zW E (d) 151 4 [(2, 69), (0, a0), (9, 0)] [(0, 1)] m0 Q
      refine zw_40_4 zr_151_4 ?_ ?_
      · intro h13
        refine zw_7 zr_151_10 rfl ?_
        refine zw_46r (s := 70) zr_151_11 rfl rfl rfl rfl ?_
        refine zw_push zr_151_14 ?_
        refine zw_push zr_151_17 ?_
        refine zw_3 zr_151_19 rfl ?_
        refine zw_18 zr_151_20 (by omega) ?_
        refine zw_16 zr_151_21 (by omega) ?_
        refine zw_push zr_151_22 ?_
        refine zw_16 zr_151_23 (by omega) ?_
        refine zw_48 (c := 70) (len := 826) zr_151_24 rfl rfl (by omega) (by omega) ?_
        intro x14 ex14
        have bx14 := ib_70_s1 hI0 (k := (((450 + (52 * a0)) + 1)).toNat) (by omega)
        rw [← ex14] at bx14
        have qx14 : x14 = F70 (((450 + (52 * a0)) + 1)).toNat := by rw [← hG70]; exact ex14
        clear ex14
        refine zw_9 (L' := [(2, 69), (0, a0), (0, x14)]) zr_151_25 (Nat.le_of_ble_eq_true rfl) rfl ?_
        refine zw_7 zr_151_26 rfl ?_
        refine zw_46r (s := 70) zr_151_27 rfl rfl rfl rfl ?_
        refine zw_push zr_151_30 ?_
        refine zw_push zr_151_33 ?_
        refine zw_3 zr_151_35 rfl ?_
        refine zw_18 zr_151_36 (by omega) ?_
        refine zw_16 zr_151_37 (by omega) ?_
        refine zw_push zr_151_38 ?_
        refine zw_16 zr_151_39 (by omega) ?_
        refine zw_push zr_151_40 ?_
        refine zw_49 (c := 70) (len := 826) zr_151_41 rfl rfl (by omega) (by omega) ?_
        intro m15 em15
        have hIm15 : zInv m15 := by rw [em15]; exact iu_70_s1 hI0 (by omega) (by omega)
        have hFm15 : zFr W_151 m0 m15 := by rw [em15]; exact hF0.any rfl
        have fm15_70 : m15 70 = zPt F70 ((((450 + (52 * a0)) + 1)).toNat) 0 := by rw [em15]; exact (zUp_ff (m := m0)).trans (congrArg (fun q => zPt q ((((450 + (52 * a0)) + 1)).toNat) 0) hG70)
        clear em15
        refine zw_3 zr_151_42 rfl ?_
        refine zw_R zr_151_43 (by decide) zm_151 (v := (0, x14)) rfl ?_
        rw [← hQ]; exact ⟨_, rfl, by omega, by omega, hIm15, hFm15, by omega, by rw [fm15_70]; first | exact (if_neg (by omega)).symm | exact (if_pos (by omega)).symm⟩
      · intro h18; omega

abbrev W_6 : List (Nat × Nat) := [(45, 6)]
set_option maxHeartbeats 8000000 in
theorem th_6 {E : zE} {d : Nat} {m0 : zM} (hd : 1 ≤ d) (hI0 : zInv m0) : zC E d 6 [(2, 45)] m0 (fun v m' => ∃ r : Int, v = (0, r) ∧ (-1) ≤ r ∧ r ≤ 127 ∧ zInv m' ∧ zFr W_6 m0 m' ∧ (r = -1 ∨ m' 45 6 ≤ 49)) := by
  have hF0 : zFr W_6 m0 m0 := zFr.rfl
  generalize hQ : (fun (v : zV) (m' : zM) => ∃ r : Int, v = (0, r) ∧ (-1) ≤ r ∧ r ≤ 127 ∧ zInv m' ∧ zFr W_6 m0 m' ∧ (r = -1 ∨ m' 45 6 ≤ 49)) = Q
  show zW E d 6 0 [(2, 45)] [] m0 Q
  refine zw_7 zr_6_0 rfl ?_
  obtain ⟨f1, ef1⟩ : ∃ v, m0 45 1 = v := ⟨_, rfl⟩
  have bf1 := hI0.fi (c := 45) (k := 1) rfl
  rw [ef1] at bf1
  refine zw_46i zr_6_1 ef1 rfl rfl rfl ?_
  refine zw_push zr_6_4 ?_
  refine zw_41_1 zr_6_5 ?_ ?_
  · intro h2
    obtain ⟨f5, ef5⟩ : ∃ v, m0 45 6 = v := ⟨_, rfl⟩
    have bf5 := ib_45_6 hI0
    rw [ef5] at bf5
    have lp10_6 : ∀ (nlp10_6 : Nat) (p4 : Int) (m3 : zM), zInv m3 → zFr W_6 m0 m3 → m3 45 1 = f1 → m3 45 6 = p4 → 0 ≤ p4 → p4 ≤ 50 → (50 - p4).toNat < nlp10_6 → zW E (d) 6 10 [(2, 45)] [] m3 Q := by
      intro nlp10_6
      induction nlp10_6 with
      | zero =>
        intros
        exact absurd (by assumption : _ < 0) (Nat.not_lt_zero _)
      | succ nlp10_6 ihlp10_6 =>
        intro p4 m3 hIm3 hFm3 km3_45_1 km3_45_6 lp4 up4 hmlp10_6
        refine zw_7 zr_6_10 rfl ?_
        refine zw_46i zr_6_11 km3_45_6 rfl rfl rfl ?_
        refine zw_7 zr_6_14 rfl ?_
        obtain ⟨f8, ef8⟩ : ∃ v, m3 45 5 = v := ⟨_, rfl⟩
        have bf8 := ib_45_5 hIm3
        rw [ef8] at bf8
        refine zw_46i zr_6_15 ef8 rfl rfl rfl ?_
        refine zw_41_3 zr_6_18 ?_ ?_
        · intro h9
          refine zw_7 zr_6_48 rfl ?_
          refine zw_46i zr_6_49 km3_45_6 rfl rfl rfl ?_
          refine zw_7 zr_6_52 rfl ?_
          refine zw_46i zr_6_53 ef8 rfl rfl rfl ?_
          refine zw_41_3 zr_6_56 ?_ ?_
          · intro h10
            refine zw_push zr_6_71 ?_
            refine zw_R zr_6_72 (by decide) zm_6 (v := (0, (-1))) rfl ?_
            rw [← hQ]; exact ⟨_, rfl, by omega, by omega, hIm3, hFm3, by omega⟩
          · intro h12
            refine zw_7 zr_6_59 rfl ?_
            refine zw_46r (s := 47) zr_6_60 rfl rfl rfl rfl ?_
            refine zw_7 zr_6_63 rfl ?_
            refine zw_46i zr_6_64 km3_45_6 rfl rfl rfl ?_
            refine zw_48 (c := 47) (len := 50) zr_6_67 rfl rfl (by omega) (by omega) ?_
            intro x13 ex13
            have bx13 := ib_47 hIm3 (k := (p4).toNat) (by omega)
            rw [← ex13] at bx13
            clear ex13
            refine zw_42 zr_6_68 ?_
            refine zw_R zr_6_72 (by decide) zm_6 (v := (0, x13)) rfl ?_
            rw [← hQ]; exact ⟨_, rfl, by omega, by omega, hIm3, hFm3, by omega⟩
        · intro h15
          refine zw_7 zr_6_21 rfl ?_
          refine zw_46r (s := 47) zr_6_22 rfl rfl rfl rfl ?_
          refine zw_7 zr_6_25 rfl ?_
          refine zw_46i zr_6_26 km3_45_6 rfl rfl rfl ?_
          refine zw_48 (c := 47) (len := 50) zr_6_29 rfl rfl (by omega) (by omega) ?_
          intro x16 ex16
          have bx16 := ib_47 hIm3 (k := (p4).toNat) (by omega)
          rw [← ex16] at bx16
          refine zw_push zr_6_30 ?_
          refine zw_41_4 zr_6_32 ?_ ?_
          · intro h17
            refine zw_7 zr_6_48 rfl ?_
            refine zw_46i zr_6_49 km3_45_6 rfl rfl rfl ?_
            refine zw_7 zr_6_52 rfl ?_
            refine zw_46i zr_6_53 ef8 rfl rfl rfl ?_
            refine zw_41_3 zr_6_56 ?_ ?_
            · intro h18
              refine zw_push zr_6_71 ?_
              refine zw_R zr_6_72 (by decide) zm_6 (v := (0, (-1))) rfl ?_
              rw [← hQ]; exact ⟨_, rfl, by omega, by omega, hIm3, hFm3, by omega⟩
            · intro h20
              refine zw_7 zr_6_59 rfl ?_
              refine zw_46r (s := 47) zr_6_60 rfl rfl rfl rfl ?_
              refine zw_7 zr_6_63 rfl ?_
              refine zw_46i zr_6_64 km3_45_6 rfl rfl rfl ?_
              refine zw_48k (c := 47) (len := 50) zr_6_67 rfl rfl (by omega) (by omega) rfl ex16.symm ?_
              refine zw_42 zr_6_68 ?_
              refine zw_R zr_6_72 (by decide) zm_6 (v := (0, x16)) rfl ?_
              rw [← hQ]; exact ⟨_, rfl, by omega, by omega, hIm3, hFm3, by omega⟩
          · intro h22
            refine zw_7 zr_6_35 rfl ?_
            refine zw_43 zr_6_36 rfl ?_
            refine zw_46i zr_6_37 km3_45_6 rfl rfl rfl ?_
            refine zw_push zr_6_40 ?_
            refine zw_16 zr_6_41 (by omega) ?_
            refine zw_47 (c := 45) zr_6_42 rfl ⟨rfl, by decide, rfl⟩ ?_
            intro m23 em23
            have hIm23 : zInv m23 := by rw [em23]; exact hIm3.bd (r := 45) (k := 6) (lo := 0) (hi := 50) rfl (by omega) (by decide) (by decide) (by decide)
            have hFm23 : zFr W_6 m0 m23 := by rw [em23]; exact hFm3.up rfl
            have km23_45_1 : m23 45 1 = f1 := by rw [em23, zUp_ne (by omega)]; exact km3_45_1
            have km23_45_5 : m23 45 5 = f8 := by rw [em23, zUp_ne (by omega)]; exact ef8
            have km23_45_6 : m23 45 6 = (p4 + 1) := by rw [em23]; exact zUp_eq _ _ _ _
            clear em23
            refine zw_42 zr_6_45 ?_
            exact zw_less (L := [(2, 45)]) ⟨Or.inr rfl, trivial⟩ (ihlp10_6 ((p4 + 1)) m23 hIm23 hFm23  km23_45_1 km23_45_6 (by omega) (by omega)  (by omega))
    exact lp10_6 _ (f5) m0 hI0 hF0  ef1 ef5 (by omega) (by omega)  (Nat.lt_succ_self _)
  · intro h24
    refine zw_push zr_6_8 ?_
    refine zw_R zr_6_9 (by decide) zm_6 (v := (0, (-1))) rfl ?_
    rw [← hQ]; exact ⟨_, rfl, by omega, by omega, hI0, hF0, by omega⟩

abbrev W_11 : List (Nat × Nat) := [(45, 8), (48, 1000)]
set_option maxHeartbeats 8000000 in
theorem th_11 {E : zE} {d : Nat} {m0 : zM} {a0 : Int} {a1 : Int} (hd : 2 ≤ d) (hI0 : zInv m0) (ha0 : 0 ≤ a0 ∧ a0 ≤ 50) (ha1 : 0 ≤ a1 ∧ a1 ≤ 50) : zC E d 11 [(2, 45), (0, a0), (0, a1)] m0 (fun v m' => v = (9, 0) ∧ zInv m' ∧ zFr W_11 m0 m') := by
  have hF0 : zFr W_11 m0 m0 := zFr.rfl
  generalize hQ : (fun (v : zV) (m' : zM) => v = (9, 0) ∧ zInv m' ∧ zFr W_11 m0 m') = Q
  show zW E d 11 0 [(2, 45), (0, a0), (0, a1), (9, 0)] [] m0 Q
  refine zw_3 zr_11_0 rfl ?_
  refine zw_push zr_11_1 ?_
  refine zw_17 zr_11_2 (by omega) ?_
  refine zw_9 (L' := [(2, 45), (0, a0), (0, a1), (0, (a1 - 1))]) zr_11_3 (Nat.le_of_ble_eq_true rfl) rfl ?_
  have lp4_3 : ∀ (nlp4_3 : Nat) (i1 : Int) (m2 : zM), zInv m2 → zFr W_11 m0 m2 → (-1) ≤ i1 → i1 ≤ 49 → (i1 - (-1)).toNat < nlp4_3 → zW E (d) 11 4 [(2, 45), (0, a0), (0, a1), (0, i1)] [] m2 Q := by
    intro nlp4_3
    induction nlp4_3 with
    | zero =>
      intros
      exact absurd (by assumption : _ < 0) (Nat.not_lt_zero _)
    | succ nlp4_3 ihlp4_3 =>
      intro i1 m2 hIm2 hFm2 li1 ui1 hmlp4_3
      refine zw_3 zr_11_4 rfl ?_
      refine zw_3 zr_11_5 rfl ?_
      refine zw_41_0 zr_11_6 ?_ ?_
      · intro h5
        refine zw_R zr_11_52 (by decide) zm_11 (v := (9, 0)) rfl ?_
        rw [← hQ]; exact ⟨rfl, hIm2, hFm2⟩
      · intro h6
        refine zw_7 zr_11_9 rfl ?_
        refine zw_46r (s := 47) zr_11_10 rfl rfl rfl rfl ?_
        refine zw_3 zr_11_13 rfl ?_
        refine zw_48 (c := 47) (len := 50) zr_11_14 rfl rfl (by omega) (by omega) ?_
        intro x7 ex7
        have bx7 := ib_47 hIm2 (k := (i1).toNat) (by omega)
        rw [← ex7] at bx7
        refine zw_push zr_11_15 ?_
        refine zw_41_4 zr_11_17 ?_ ?_
        · intro h8
          refine zw_7 zr_11_29 rfl ?_
          refine zw_46r (s := 47) zr_11_30 rfl rfl rfl rfl ?_
          refine zw_3 zr_11_33 rfl ?_
          refine zw_48k (c := 47) (len := 50) zr_11_34 rfl rfl (by omega) (by omega) rfl ex7.symm ?_
          refine zw_push zr_11_35 ?_
          refine zw_41_4 zr_11_37 ?_ ?_
          · intro h9
            refine zw_15 (c := (-1)) (L' := [(2, 45), (0, a0), (0, a1), (0, (i1 + (-1)))]) zr_11_46 rfl (by decide) (by omega) rfl ?_
            refine zw_42 zr_11_49 ?_
            exact zw_less (L := [(2, 45), (0, a0), (0, a1), (0, (i1 + (-1)))]) ⟨Or.inr rfl, Or.inr rfl, Or.inr rfl, Or.inr rfl, trivial⟩ (ihlp4_3 ((i1 + (-1))) m2 hIm2 hFm2   (by omega) (by omega)  (by omega))
          · intro h10
            refine zw_7 zr_11_40 rfl ?_
            refine zw_push zr_11_41 ?_
            refine zw_C zr_11_43 (Or.inl rfl) zm_8 rfl rfl ⟨Nat.le_of_ble_eq_true rfl, Nat.le_of_ble_eq_true rfl, Nat.le_of_ble_eq_true rfl, rfl, by decide⟩ (by omega) (P := (fun v m' => zW E (d) 11 46 [(2, 45), (0, a0), (0, a1), (0, i1)] (if v.1 = 9 then [] else v :: []) m' Q)) ?_ (fun _ _ h => h)
            generalize hQ1 : (fun v m' => zW E (d) 11 46 [(2, 45), (0, a0), (0, a1), (0, i1)] (if v.1 = 9 then [] else v :: []) m' Q) = Q1
            show zW E (d - 1) 8 0 [(2, 45), (0, (-126))] [] m2 Q1
            refine zw_7 zr_8_0 rfl ?_
            obtain ⟨f11, ef11⟩ : ∃ v, m2 45 8 = v := ⟨_, rfl⟩
            have bf11 := ib_45_8 hIm2
            rw [ef11] at bf11
            refine zw_46i zr_8_1 ef11 rfl rfl rfl ?_
            refine zw_push zr_8_4 ?_
            refine zw_41_3 zr_8_6 ?_ ?_
            · intro h12
              refine zw_R zr_8_29 (by decide) zm_8 (v := (9, 0)) rfl ?_
              rw [← hQ1]
              show zW E (d) 11 46 [(2, 45), (0, a0), (0, a1), (0, i1)] [] m2 Q
              refine zw_15 (c := (-1)) (L' := [(2, 45), (0, a0), (0, a1), (0, (i1 + (-1)))]) zr_11_46 rfl (by decide) (by omega) rfl ?_
              refine zw_42 zr_11_49 ?_
              exact zw_less (L := [(2, 45), (0, a0), (0, a1), (0, (i1 + (-1)))]) ⟨Or.inr rfl, Or.inr rfl, Or.inr rfl, Or.inr rfl, trivial⟩ (ihlp4_3 ((i1 + (-1))) m2 hIm2 hFm2   (by omega) (by omega)  (by omega))
            · intro h13
              refine zw_7 zr_8_9 rfl ?_
              refine zw_46r (s := 48) zr_8_10 rfl rfl rfl rfl ?_
              refine zw_7 zr_8_13 rfl ?_
              refine zw_46i zr_8_14 ef11 rfl rfl rfl ?_
              refine zw_3 zr_8_17 rfl ?_
              refine zw_49 (c := 48) (len := 50) zr_8_18 rfl rfl (by omega) (by omega) ?_
              intro m14 em14
              have hIm14 : zInv m14 := by rw [em14]; exact hIm2.any (by omega) rfl (by decide) (by decide)
              have hFm14 : zFr W_11 m0 m14 := by rw [em14]; exact hFm2.any rfl
              have km14_45_8 : m14 45 8 = f11 := by rw [em14, zUp_ne (by omega)]; exact ef11
              clear em14
              refine zw_7 zr_8_19 rfl ?_
              refine zw_43 zr_8_20 rfl ?_
              refine zw_46i zr_8_21 km14_45_8 rfl rfl rfl ?_
              refine zw_push zr_8_24 ?_
              refine zw_16 zr_8_25 (by omega) ?_
              refine zw_47 (c := 45) zr_8_26 rfl ⟨rfl, by decide, rfl⟩ ?_
              intro m15 em15
              have hIm15 : zInv m15 := by rw [em15]; exact hIm14.bd (r := 45) (k := 8) (lo := 0) (hi := 50) rfl (by omega) (by decide) (by decide) (by decide)
              have hFm15 : zFr W_11 m0 m15 := by rw [em15]; exact hFm14.up rfl
              have km15_45_8 : m15 45 8 = (f11 + 1) := by rw [em15]; exact zUp_eq _ _ _ _
              clear em15
              refine zw_R zr_8_29 (by decide) zm_8 (v := (9, 0)) rfl ?_
              rw [← hQ1]
              show zW E (d) 11 46 [(2, 45), (0, a0), (0, a1), (0, i1)] [] m15 Q
              refine zw_15 (c := (-1)) (L' := [(2, 45), (0, a0), (0, a1), (0, (i1 + (-1)))]) zr_11_46 rfl (by decide) (by omega) rfl ?_
              refine zw_42 zr_11_49 ?_
              exact zw_less (L := [(2, 45), (0, a0), (0, a1), (0, (i1 + (-1)))]) ⟨Or.inr rfl, Or.inr rfl, Or.inr rfl, Or.inr rfl, trivial⟩ (ihlp4_3 ((i1 + (-1))) m15 hIm15 hFm15   (by omega) (by omega)  (by omega))
        · intro h16
          refine zw_7 zr_11_20 rfl ?_
          refine zw_push zr_11_21 ?_
          refine zw_C zr_11_23 (Or.inl rfl) zm_8 rfl rfl ⟨Nat.le_of_ble_eq_true rfl, Nat.le_of_ble_eq_true rfl, Nat.le_of_ble_eq_true rfl, rfl, by decide⟩ (by omega) (P := (fun v m' => zW E (d) 11 26 [(2, 45), (0, a0), (0, a1), (0, i1)] (if v.1 = 9 then [] else v :: []) m' Q)) ?_ (fun _ _ h => h)
          generalize hQ1 : (fun v m' => zW E (d) 11 26 [(2, 45), (0, a0), (0, a1), (0, i1)] (if v.1 = 9 then [] else v :: []) m' Q) = Q1
          show zW E (d - 1) 8 0 [(2, 45), (0, (-33))] [] m2 Q1
          refine zw_7 zr_8_0 rfl ?_
          obtain ⟨f17, ef17⟩ : ∃ v, m2 45 8 = v := ⟨_, rfl⟩
          have bf17 := ib_45_8 hIm2
          rw [ef17] at bf17
          refine zw_46i zr_8_1 ef17 rfl rfl rfl ?_
          refine zw_push zr_8_4 ?_
          refine zw_41_3 zr_8_6 ?_ ?_
          · intro h18
            refine zw_R zr_8_29 (by decide) zm_8 (v := (9, 0)) rfl ?_
            rw [← hQ1]
            show zW E (d) 11 26 [(2, 45), (0, a0), (0, a1), (0, i1)] [] m2 Q
            refine zw_42 zr_11_26 ?_
            refine zw_15 (c := (-1)) (L' := [(2, 45), (0, a0), (0, a1), (0, (i1 + (-1)))]) zr_11_46 rfl (by decide) (by omega) rfl ?_
            refine zw_42 zr_11_49 ?_
            exact zw_less (L := [(2, 45), (0, a0), (0, a1), (0, (i1 + (-1)))]) ⟨Or.inr rfl, Or.inr rfl, Or.inr rfl, Or.inr rfl, trivial⟩ (ihlp4_3 ((i1 + (-1))) m2 hIm2 hFm2   (by omega) (by omega)  (by omega))
          · intro h19
            refine zw_7 zr_8_9 rfl ?_
            refine zw_46r (s := 48) zr_8_10 rfl rfl rfl rfl ?_
            refine zw_7 zr_8_13 rfl ?_
            refine zw_46i zr_8_14 ef17 rfl rfl rfl ?_
            refine zw_3 zr_8_17 rfl ?_
            refine zw_49 (c := 48) (len := 50) zr_8_18 rfl rfl (by omega) (by omega) ?_
            intro m20 em20
            have hIm20 : zInv m20 := by rw [em20]; exact hIm2.any (by omega) rfl (by decide) (by decide)
            have hFm20 : zFr W_11 m0 m20 := by rw [em20]; exact hFm2.any rfl
            have km20_45_8 : m20 45 8 = f17 := by rw [em20, zUp_ne (by omega)]; exact ef17
            clear em20
            refine zw_7 zr_8_19 rfl ?_
            refine zw_43 zr_8_20 rfl ?_
            refine zw_46i zr_8_21 km20_45_8 rfl rfl rfl ?_
            refine zw_push zr_8_24 ?_
            refine zw_16 zr_8_25 (by omega) ?_
            refine zw_47 (c := 45) zr_8_26 rfl ⟨rfl, by decide, rfl⟩ ?_
            intro m21 em21
            have hIm21 : zInv m21 := by rw [em21]; exact hIm20.bd (r := 45) (k := 8) (lo := 0) (hi := 50) rfl (by omega) (by decide) (by decide) (by decide)
            have hFm21 : zFr W_11 m0 m21 := by rw [em21]; exact hFm20.up rfl
            have km21_45_8 : m21 45 8 = (f17 + 1) := by rw [em21]; exact zUp_eq _ _ _ _
            clear em21
            refine zw_R zr_8_29 (by decide) zm_8 (v := (9, 0)) rfl ?_
            rw [← hQ1]
            show zW E (d) 11 26 [(2, 45), (0, a0), (0, a1), (0, i1)] [] m21 Q
            refine zw_42 zr_11_26 ?_
            refine zw_15 (c := (-1)) (L' := [(2, 45), (0, a0), (0, a1), (0, (i1 + (-1)))]) zr_11_46 rfl (by decide) (by omega) rfl ?_
            refine zw_42 zr_11_49 ?_
            exact zw_less (L := [(2, 45), (0, a0), (0, a1), (0, (i1 + (-1)))]) ⟨Or.inr rfl, Or.inr rfl, Or.inr rfl, Or.inr rfl, trivial⟩ (ihlp4_3 ((i1 + (-1))) m21 hIm21 hFm21   (by omega) (by omega)  (by omega))
  exact lp4_3 _ ((a1 - 1)) m0 hI0 hF0   (by omega) (by omega)  (Nat.lt_succ_self _)

abbrev W_9 : List (Nat × Nat) := [(45, 1), (45, 6), (45, 8), (48, 1000)]
set_option maxHeartbeats 8000000 in
theorem th_9 {E : zE} {d : Nat} {m0 : zM} (hd : 2 ≤ d) (hI0 : zInv m0) : zC E d 9 [(2, 45)] m0 (fun v m' => v = (9, 0) ∧ zInv m' ∧ zFr W_9 m0 m') := by
  have hF0 : zFr W_9 m0 m0 := zFr.rfl
  generalize hQ : (fun (v : zV) (m' : zM) => v = (9, 0) ∧ zInv m' ∧ zFr W_9 m0 m') = Q
  show zW E d 9 0 [(2, 45), (9, 0), (9, 0)] [] m0 Q
  refine zw_7 zr_9_0 rfl ?_
  obtain ⟨f1, ef1⟩ : ∃ v, m0 45 6 = v := ⟨_, rfl⟩
  have bf1 := ib_45_6 hI0
  rw [ef1] at bf1
  refine zw_46i zr_9_1 ef1 rfl rfl rfl ?_
  refine zw_9 (L' := [(2, 45), (0, f1), (9, 0)]) zr_9_4 (Nat.le_of_ble_eq_true rfl) rfl ?_
  refine zw_push zr_9_5 ?_
  refine zw_9 (L' := [(2, 45), (0, f1), (0, 0)]) zr_9_6 (Nat.le_of_ble_eq_true rfl) rfl ?_
  have lp7_5 : ∀ (nlp7_5 : Nat) (i2 p4 : Int) (m3 : zM), zInv m3 → zFr W_9 m0 m3 → m3 45 6 = p4 → (-2147483648) ≤ i2 → i2 ≤ 2147483647 → 0 ≤ p4 → p4 ≤ 50 → (50 - p4).toNat < nlp7_5 → zW E (d) 9 7 [(2, 45), (0, f1), (0, i2)] [] m3 Q := by
    intro nlp7_5
    induction nlp7_5 with
    | zero =>
      intros
      exact absurd (by assumption : _ < 0) (Nat.not_lt_zero _)
    | succ nlp7_5 ihlp7_5 =>
      intro i2 p4 m3 hIm3 hFm3 km3_45_6 li2 ui2 lp4 up4 hmlp7_5
      refine zw_7 zr_9_7 rfl ?_
      refine zw_46i zr_9_8 km3_45_6 rfl rfl rfl ?_
      refine zw_7 zr_9_11 rfl ?_
      obtain ⟨f7, ef7⟩ : ∃ v, m3 45 5 = v := ⟨_, rfl⟩
      have bf7 := ib_45_5 hIm3
      rw [ef7] at bf7
      refine zw_46i zr_9_12 ef7 rfl rfl rfl ?_
      refine zw_41_3 zr_9_15 ?_ ?_
      · intro h8
        refine zw_7 zr_9_99 rfl ?_
        refine zw_3 zr_9_100 rfl ?_
        refine zw_C zr_9_101 (Or.inl rfl) zm_8 rfl rfl ⟨Nat.le_of_ble_eq_true rfl, Nat.le_of_ble_eq_true rfl, Nat.le_of_ble_eq_true rfl, rfl, by decide⟩ (by omega) (P := (fun v m' => zW E (d) 9 104 [(2, 45), (0, f1), (0, i2)] (if v.1 = 9 then [] else v :: []) m' Q)) ?_ (fun _ _ h => h)
        generalize hQ1 : (fun v m' => zW E (d) 9 104 [(2, 45), (0, f1), (0, i2)] (if v.1 = 9 then [] else v :: []) m' Q) = Q1
        show zW E (d - 1) 8 0 [(2, 45), (0, i2)] [] m3 Q1
        refine zw_7 zr_8_0 rfl ?_
        obtain ⟨f9, ef9⟩ : ∃ v, m3 45 8 = v := ⟨_, rfl⟩
        have bf9 := ib_45_8 hIm3
        rw [ef9] at bf9
        refine zw_46i zr_8_1 ef9 rfl rfl rfl ?_
        refine zw_push zr_8_4 ?_
        refine zw_41_3 zr_8_6 ?_ ?_
        · intro h10
          refine zw_R zr_8_29 (by decide) zm_8 (v := (9, 0)) rfl ?_
          rw [← hQ1]
          show zW E (d) 9 104 [(2, 45), (0, f1), (0, i2)] [] m3 Q
          refine zw_R zr_9_104 (by decide) zm_9 (v := (9, 0)) rfl ?_
          rw [← hQ]; exact ⟨rfl, hIm3, hFm3⟩
        · intro h11
          refine zw_7 zr_8_9 rfl ?_
          refine zw_46r (s := 48) zr_8_10 rfl rfl rfl rfl ?_
          refine zw_7 zr_8_13 rfl ?_
          refine zw_46i zr_8_14 ef9 rfl rfl rfl ?_
          refine zw_3 zr_8_17 rfl ?_
          refine zw_49 (c := 48) (len := 50) zr_8_18 rfl rfl (by omega) (by omega) ?_
          intro m12 em12
          have hIm12 : zInv m12 := by rw [em12]; exact hIm3.any (by omega) rfl (by decide) (by decide)
          have hFm12 : zFr W_9 m0 m12 := by rw [em12]; exact hFm3.any rfl
          have km12_45_6 : m12 45 6 = p4 := by rw [em12, zUp_ne (by omega)]; exact km3_45_6
          have km12_45_5 : m12 45 5 = f7 := by rw [em12, zUp_ne (by omega)]; exact ef7
          have km12_45_8 : m12 45 8 = f9 := by rw [em12, zUp_ne (by omega)]; exact ef9
          clear em12
          refine zw_7 zr_8_19 rfl ?_
          refine zw_43 zr_8_20 rfl ?_
          refine zw_46i zr_8_21 km12_45_8 rfl rfl rfl ?_
          refine zw_push zr_8_24 ?_
          refine zw_16 zr_8_25 (by omega) ?_
          refine zw_47 (c := 45) zr_8_26 rfl ⟨rfl, by decide, rfl⟩ ?_
          intro m13 em13
          have hIm13 : zInv m13 := by rw [em13]; exact hIm12.bd (r := 45) (k := 8) (lo := 0) (hi := 50) rfl (by omega) (by decide) (by decide) (by decide)
          have hFm13 : zFr W_9 m0 m13 := by rw [em13]; exact hFm12.up rfl
          have km13_45_6 : m13 45 6 = p4 := by rw [em13, zUp_ne (by omega)]; exact km12_45_6
          have km13_45_5 : m13 45 5 = f7 := by rw [em13, zUp_ne (by omega)]; exact km12_45_5
          have km13_45_8 : m13 45 8 = (f9 + 1) := by rw [em13]; exact zUp_eq _ _ _ _
          clear em13
          refine zw_R zr_8_29 (by decide) zm_8 (v := (9, 0)) rfl ?_
          rw [← hQ1]
          show zW E (d) 9 104 [(2, 45), (0, f1), (0, i2)] [] m13 Q
          refine zw_R zr_9_104 (by decide) zm_9 (v := (9, 0)) rfl ?_
          rw [← hQ]; exact ⟨rfl, hIm13, hFm13⟩
      · intro h14
        refine zw_7 zr_9_18 rfl ?_
        refine zw_46r (s := 47) zr_9_19 rfl rfl rfl rfl ?_
        refine zw_7 zr_9_22 rfl ?_
        refine zw_46i zr_9_23 km3_45_6 rfl rfl rfl ?_
        refine zw_48 (c := 47) (len := 50) zr_9_26 rfl rfl (by omega) (by omega) ?_
        intro x15 ex15
        have bx15 := ib_47 hIm3 (k := (p4).toNat) (by omega)
        rw [← ex15] at bx15
        refine zw_push zr_9_27 ?_
        refine zw_41_0 zr_9_29 ?_ ?_
        · intro h16
          refine zw_7 zr_9_99 rfl ?_
          refine zw_3 zr_9_100 rfl ?_
          refine zw_C zr_9_101 (Or.inl rfl) zm_8 rfl rfl ⟨Nat.le_of_ble_eq_true rfl, Nat.le_of_ble_eq_true rfl, Nat.le_of_ble_eq_true rfl, rfl, by decide⟩ (by omega) (P := (fun v m' => zW E (d) 9 104 [(2, 45), (0, f1), (0, i2)] (if v.1 = 9 then [] else v :: []) m' Q)) ?_ (fun _ _ h => h)
          generalize hQ1 : (fun v m' => zW E (d) 9 104 [(2, 45), (0, f1), (0, i2)] (if v.1 = 9 then [] else v :: []) m' Q) = Q1
          show zW E (d - 1) 8 0 [(2, 45), (0, i2)] [] m3 Q1
          refine zw_7 zr_8_0 rfl ?_
          obtain ⟨f17, ef17⟩ : ∃ v, m3 45 8 = v := ⟨_, rfl⟩
          have bf17 := ib_45_8 hIm3
          rw [ef17] at bf17
          refine zw_46i zr_8_1 ef17 rfl rfl rfl ?_
          refine zw_push zr_8_4 ?_
          refine zw_41_3 zr_8_6 ?_ ?_
          · intro h18
            refine zw_R zr_8_29 (by decide) zm_8 (v := (9, 0)) rfl ?_
            rw [← hQ1]
            show zW E (d) 9 104 [(2, 45), (0, f1), (0, i2)] [] m3 Q
            refine zw_R zr_9_104 (by decide) zm_9 (v := (9, 0)) rfl ?_
            rw [← hQ]; exact ⟨rfl, hIm3, hFm3⟩
          · intro h19
            refine zw_7 zr_8_9 rfl ?_
            refine zw_46r (s := 48) zr_8_10 rfl rfl rfl rfl ?_
            refine zw_7 zr_8_13 rfl ?_
            refine zw_46i zr_8_14 ef17 rfl rfl rfl ?_
            refine zw_3 zr_8_17 rfl ?_
            refine zw_49 (c := 48) (len := 50) zr_8_18 rfl rfl (by omega) (by omega) ?_
            intro m20 em20
            have hIm20 : zInv m20 := by rw [em20]; exact hIm3.any (by omega) rfl (by decide) (by decide)
            have hFm20 : zFr W_9 m0 m20 := by rw [em20]; exact hFm3.any rfl
            have km20_45_6 : m20 45 6 = p4 := by rw [em20, zUp_ne (by omega)]; exact km3_45_6
            have km20_45_5 : m20 45 5 = f7 := by rw [em20, zUp_ne (by omega)]; exact ef7
            have km20_45_8 : m20 45 8 = f17 := by rw [em20, zUp_ne (by omega)]; exact ef17
            clear em20
            refine zw_7 zr_8_19 rfl ?_
            refine zw_43 zr_8_20 rfl ?_
            refine zw_46i zr_8_21 km20_45_8 rfl rfl rfl ?_
            refine zw_push zr_8_24 ?_
            refine zw_16 zr_8_25 (by omega) ?_
            refine zw_47 (c := 45) zr_8_26 rfl ⟨rfl, by decide, rfl⟩ ?_
            intro m21 em21
            have hIm21 : zInv m21 := by rw [em21]; exact hIm20.bd (r := 45) (k := 8) (lo := 0) (hi := 50) rfl (by omega) (by decide) (by decide) (by decide)
            have hFm21 : zFr W_9 m0 m21 := by rw [em21]; exact hFm20.up rfl
            have km21_45_6 : m21 45 6 = p4 := by rw [em21, zUp_ne (by omega)]; exact km20_45_6
            have km21_45_5 : m21 45 5 = f7 := by rw [em21, zUp_ne (by omega)]; exact km20_45_5
            have km21_45_8 : m21 45 8 = (f17 + 1) := by rw [em21]; exact zUp_eq _ _ _ _
            clear em21
            refine zw_R zr_8_29 (by decide) zm_8 (v := (9, 0)) rfl ?_
            rw [← hQ1]
            show zW E (d) 9 104 [(2, 45), (0, f1), (0, i2)] [] m21 Q
            refine zw_R zr_9_104 (by decide) zm_9 (v := (9, 0)) rfl ?_
            rw [← hQ]; exact ⟨rfl, hIm21, hFm21⟩
        · intro h22
          refine zw_7 zr_9_32 rfl ?_
          refine zw_46r (s := 47) zr_9_33 rfl rfl rfl rfl ?_
          refine zw_7 zr_9_36 rfl ?_
          refine zw_46i zr_9_37 km3_45_6 rfl rfl rfl ?_
          refine zw_48k (c := 47) (len := 50) zr_9_40 rfl rfl (by omega) (by omega) rfl ex15.symm ?_
          refine zw_push zr_9_41 ?_
          refine zw_41_2 zr_9_43 ?_ ?_
          · intro h23
            refine zw_7 zr_9_99 rfl ?_
            refine zw_3 zr_9_100 rfl ?_
            refine zw_C zr_9_101 (Or.inl rfl) zm_8 rfl rfl ⟨Nat.le_of_ble_eq_true rfl, Nat.le_of_ble_eq_true rfl, Nat.le_of_ble_eq_true rfl, rfl, by decide⟩ (by omega) (P := (fun v m' => zW E (d) 9 104 [(2, 45), (0, f1), (0, i2)] (if v.1 = 9 then [] else v :: []) m' Q)) ?_ (fun _ _ h => h)
            generalize hQ1 : (fun v m' => zW E (d) 9 104 [(2, 45), (0, f1), (0, i2)] (if v.1 = 9 then [] else v :: []) m' Q) = Q1
            show zW E (d - 1) 8 0 [(2, 45), (0, i2)] [] m3 Q1
            refine zw_7 zr_8_0 rfl ?_
            obtain ⟨f24, ef24⟩ : ∃ v, m3 45 8 = v := ⟨_, rfl⟩
            have bf24 := ib_45_8 hIm3
            rw [ef24] at bf24
            refine zw_46i zr_8_1 ef24 rfl rfl rfl ?_
            refine zw_push zr_8_4 ?_
            refine zw_41_3 zr_8_6 ?_ ?_
            · intro h25
              refine zw_R zr_8_29 (by decide) zm_8 (v := (9, 0)) rfl ?_
              rw [← hQ1]
              show zW E (d) 9 104 [(2, 45), (0, f1), (0, i2)] [] m3 Q
              refine zw_R zr_9_104 (by decide) zm_9 (v := (9, 0)) rfl ?_
              rw [← hQ]; exact ⟨rfl, hIm3, hFm3⟩
            · intro h26
              refine zw_7 zr_8_9 rfl ?_
              refine zw_46r (s := 48) zr_8_10 rfl rfl rfl rfl ?_
              refine zw_7 zr_8_13 rfl ?_
              refine zw_46i zr_8_14 ef24 rfl rfl rfl ?_
              refine zw_3 zr_8_17 rfl ?_
              refine zw_49 (c := 48) (len := 50) zr_8_18 rfl rfl (by omega) (by omega) ?_
              intro m27 em27
              have hIm27 : zInv m27 := by rw [em27]; exact hIm3.any (by omega) rfl (by decide) (by decide)
              have hFm27 : zFr W_9 m0 m27 := by rw [em27]; exact hFm3.any rfl
              have km27_45_6 : m27 45 6 = p4 := by rw [em27, zUp_ne (by omega)]; exact km3_45_6
              have km27_45_5 : m27 45 5 = f7 := by rw [em27, zUp_ne (by omega)]; exact ef7
              have km27_45_8 : m27 45 8 = f24 := by rw [em27, zUp_ne (by omega)]; exact ef24
              clear em27
              refine zw_7 zr_8_19 rfl ?_
              refine zw_43 zr_8_20 rfl ?_
              refine zw_46i zr_8_21 km27_45_8 rfl rfl rfl ?_
              refine zw_push zr_8_24 ?_
              refine zw_16 zr_8_25 (by omega) ?_
              refine zw_47 (c := 45) zr_8_26 rfl ⟨rfl, by decide, rfl⟩ ?_
              intro m28 em28
              have hIm28 : zInv m28 := by rw [em28]; exact hIm27.bd (r := 45) (k := 8) (lo := 0) (hi := 50) rfl (by omega) (by decide) (by decide) (by decide)
              have hFm28 : zFr W_9 m0 m28 := by rw [em28]; exact hFm27.up rfl
              have km28_45_6 : m28 45 6 = p4 := by rw [em28, zUp_ne (by omega)]; exact km27_45_6
              have km28_45_5 : m28 45 5 = f7 := by rw [em28, zUp_ne (by omega)]; exact km27_45_5
              have km28_45_8 : m28 45 8 = (f24 + 1) := by rw [em28]; exact zUp_eq _ _ _ _
              clear em28
              refine zw_R zr_8_29 (by decide) zm_8 (v := (9, 0)) rfl ?_
              rw [← hQ1]
              show zW E (d) 9 104 [(2, 45), (0, f1), (0, i2)] [] m28 Q
              refine zw_R zr_9_104 (by decide) zm_9 (v := (9, 0)) rfl ?_
              rw [← hQ]; exact ⟨rfl, hIm28, hFm28⟩
          · intro h29
            refine zw_7 zr_9_46 rfl ?_
            refine zw_46i zr_9_47 km3_45_6 rfl rfl rfl ?_
            refine zw_3 zr_9_50 rfl ?_
            refine zw_17 zr_9_51 (by omega) ?_
            refine zw_push zr_9_52 ?_
            refine zw_41_0 zr_9_54 ?_ ?_
            · intro h30
              refine zw_3 zr_9_68 rfl ?_
              refine zw_push zr_9_69 ?_
              refine zw_18h zr_9_71 ?_
              intro x31 hx31a hx31b
              refine zw_7 zr_9_72 rfl ?_
              refine zw_46r (s := 47) zr_9_73 rfl rfl rfl rfl ?_
              refine zw_7 zr_9_76 rfl ?_
              refine zw_46i zr_9_77 km3_45_6 rfl rfl rfl ?_
              refine zw_48k (c := 47) (len := 50) zr_9_80 rfl rfl (by omega) (by omega) rfl ex15.symm ?_
              refine zw_16h zr_9_81 ?_
              intro x32 hx32a hx32b
              refine zw_push zr_9_82 ?_
              refine zw_17h zr_9_84 ?_
              intro x33 hx33a hx33b
              refine zw_9 (L' := [(2, 45), (0, f1), (0, x33)]) zr_9_85 (Nat.le_of_ble_eq_true rfl) rfl ?_
              refine zw_7 zr_9_86 rfl ?_
              refine zw_43 zr_9_87 rfl ?_
              refine zw_46i zr_9_88 km3_45_6 rfl rfl rfl ?_
              refine zw_push zr_9_91 ?_
              refine zw_16 zr_9_92 (by omega) ?_
              refine zw_47 (c := 45) zr_9_93 rfl ⟨rfl, by decide, rfl⟩ ?_
              intro m34 em34
              have hIm34 : zInv m34 := by rw [em34]; exact hIm3.bd (r := 45) (k := 6) (lo := 0) (hi := 50) rfl (by omega) (by decide) (by decide) (by decide)
              have hFm34 : zFr W_9 m0 m34 := by rw [em34]; exact hFm3.up rfl
              have km34_45_5 : m34 45 5 = f7 := by rw [em34, zUp_ne (by omega)]; exact ef7
              have km34_45_6 : m34 45 6 = (p4 + 1) := by rw [em34]; exact zUp_eq _ _ _ _
              clear em34
              refine zw_42 zr_9_96 ?_
              exact zw_less (L := [(2, 45), (0, f1), (0, x33)]) ⟨Or.inr rfl, Or.inr rfl, Or.inr rfl, trivial⟩ (ihlp7_5 (x33) ((p4 + 1)) m34 hIm34 hFm34  km34_45_6 (by omega) (by omega) (by omega) (by omega)  (by omega))
            · intro h35
              refine zw_7 zr_9_57 rfl ?_
              refine zw_3 zr_9_58 rfl ?_
              refine zw_47 (c := 45) zr_9_59 rfl ⟨rfl, by decide, rfl⟩ ?_
              intro m36 em36
              have hIm36 : zInv m36 := by rw [em36]; exact hIm3.bd (r := 45) (k := 6) (lo := 0) (hi := 50) rfl (by omega) (by decide) (by decide) (by decide)
              have hFm36 : zFr W_9 m0 m36 := by rw [em36]; exact hFm3.up rfl
              have km36_45_5 : m36 45 5 = f7 := by rw [em36, zUp_ne (by omega)]; exact ef7
              have km36_45_6 : m36 45 6 = f1 := by rw [em36]; exact zUp_eq _ _ _ _
              clear em36
              refine zw_7 zr_9_62 rfl ?_
              refine zw_push zr_9_63 ?_
              refine zw_C zr_9_64 (Or.inl rfl) zm_5 rfl rfl ⟨Nat.le_of_ble_eq_true rfl, Nat.le_of_ble_eq_true rfl, Nat.le_of_ble_eq_true rfl, rfl, by decide⟩ (by omega) (P := (fun v m' => zW E (d) 9 67 [(2, 45), (0, f1), (0, i2)] (if v.1 = 9 then [] else v :: []) m' Q)) ?_ (fun _ _ h => h)
              generalize hQ1 : (fun v m' => zW E (d) 9 67 [(2, 45), (0, f1), (0, i2)] (if v.1 = 9 then [] else v :: []) m' Q) = Q1
              show zW E (d - 1) 5 0 [(2, 45), (0, 2)] [] m36 Q1
              refine zw_7 zr_5_0 rfl ?_
              obtain ⟨f37, ef37⟩ : ∃ v, m36 45 1 = v := ⟨_, rfl⟩
              have bf37 := hIm36.fi (c := 45) (k := 1) rfl
              rw [ef37] at bf37
              refine zw_46i zr_5_1 ef37 rfl rfl rfl ?_
              refine zw_push zr_5_4 ?_
              refine zw_41_4 zr_5_5 ?_ ?_
              · intro h38
                refine zw_R zr_5_21 (by decide) zm_5 (v := (9, 0)) rfl ?_
                rw [← hQ1]
                show zW E (d) 9 67 [(2, 45), (0, f1), (0, i2)] [] m36 Q
                refine zw_R zr_9_67 (by decide) zm_9 (v := (9, 0)) rfl ?_
                rw [← hQ]; exact ⟨rfl, hIm36, hFm36⟩
              · intro h39
                refine zw_7 zr_5_8 rfl ?_
                refine zw_7 zr_5_9 rfl ?_
                refine zw_46i zr_5_10 km36_45_6 rfl rfl rfl ?_
                refine zw_push zr_5_13 ?_
                refine zw_18 zr_5_15 (by omega) ?_
                refine zw_3 zr_5_16 rfl ?_
                refine zw_16 zr_5_17 (by omega) ?_
                refine zw_47 (c := 45) zr_5_18 rfl ⟨rfl, by decide, rfl⟩ ?_
                intro m40 em40
                have hIm40 : zInv m40 := by rw [em40]; exact hIm36.any (by omega) rfl (by decide) (by decide)
                have hFm40 : zFr W_9 m0 m40 := by rw [em40]; exact hFm36.up rfl
                have km40_45_5 : m40 45 5 = f7 := by rw [em40, zUp_ne (by omega)]; exact km36_45_5
                have km40_45_6 : m40 45 6 = f1 := by rw [em40, zUp_ne (by omega)]; exact km36_45_6
                have km40_45_1 : m40 45 1 = ((f1 * 10) + 2) := by rw [em40]; exact zUp_eq _ _ _ _
                clear em40
                refine zw_R zr_5_21 (by decide) zm_5 (v := (9, 0)) rfl ?_
                rw [← hQ1]
                show zW E (d) 9 67 [(2, 45), (0, f1), (0, i2)] [] m40 Q
                refine zw_R zr_9_67 (by decide) zm_9 (v := (9, 0)) rfl ?_
                rw [← hQ]; exact ⟨rfl, hIm40, hFm40⟩
  exact lp7_5 _ (0) (f1) m0 hI0 hF0  ef1 (by omega) (by omega) (by omega) (by omega)  (Nat.lt_succ_self _)

abbrev W_13 : List (Nat × Nat) := [(45, 1), (45, 6), (45, 7), (45, 8), (48, 1000)]
def rs_13 (E : zE) (d : Nat) : Prop := ∀ (m0 : zM) (a0 : Int) (g0 : Int), (10 * (8 - g0) + (6 - a0)).toNat + 6 ≤ d → zInv m0 → (m0 45 7 = g0) → (0 ≤ a0 ∧ a0 ≤ 5) → zC E d 13 [(2, 45), (0, a0)] m0 (fun v m' => v = (9, 0) ∧ zInv m' ∧ zFr W_13 m0 m' ∧ (m' 45 7 = g0))
abbrev W_14 : List (Nat × Nat) := [(45, 1), (45, 6), (45, 7), (45, 8), (48, 1000)]
def rs_14 (E : zE) (d : Nat) : Prop := ∀ (m0 : zM) (g0 : Int), (10 * (8 - g0)).toNat + 6 ≤ d → zInv m0 → (m0 45 7 = g0) → zC E d 14 [(2, 45)] m0 (fun v m' => v = (9, 0) ∧ zInv m' ∧ zFr W_14 m0 m' ∧ (m' 45 7 = g0))
abbrev W_12 : List (Nat × Nat) := [(45, 1), (45, 6), (45, 7), (45, 8), (48, 1000)]
def rs_12 (E : zE) (d : Nat) : Prop := ∀ (m0 : zM) (g0 : Int) (g1 : Int), (10 * (8 - g0)).toNat + 5 ≤ d → zInv m0 → (m0 45 7 = g0) → (m0 45 6 = g1) → (g1 ≤ 49) → zC E d 12 [(2, 45)] m0 (fun v m' => v = (9, 0) ∧ zInv m' ∧ zFr W_12 m0 m' ∧ (m' 45 7 = g0))
set_option maxHeartbeats 8000000 in
theorem tr_13 {E : zE} {d : Nat} (ih13 : rs_13 E (d - 1)) (ih14 : rs_14 E (d - 1)) (ih12 : rs_12 E (d - 1)) : rs_13 E d := by
  intro m0 a0 g0 hd hI0 hg0 ha0
  have hF0 : zFr W_13 m0 m0 := zFr.rfl
  have bg0 := ib_45_7 hI0
  rw [hg0] at bg0
  generalize hQ : (fun (v : zV) (m' : zM) => v = (9, 0) ∧ zInv m' ∧ zFr W_13 m0 m' ∧ (m' 45 7 = g0)) = Q
  show zW E d 13 0 [(2, 45), (0, a0), (9, 0), (9, 0), (9, 0)] [] m0 Q
  refine zw_3 zr_13_0 rfl ?_
  refine zw_push zr_13_1 ?_
  refine zw_41_0 zr_13_2 ?_ ?_
  · intro h1
    refine zw_7 zr_13_10 rfl ?_
    refine zw_3 zr_13_11 rfl ?_
    refine zw_push zr_13_12 ?_
    refine zw_16 zr_13_13 (by omega) ?_
    refine zw_C zr_13_14 (Or.inl rfl) zm_13 rfl rfl ⟨Nat.le_of_ble_eq_true rfl, Nat.le_of_ble_eq_true rfl, Nat.le_of_ble_eq_true rfl, rfl, by decide⟩ (by omega) (ih13 m0 ((a0 + 1)) (g0) (by omega) hI0 hg0  (by omega) ) ?_
    rintro _ m2 ⟨rfl, hIm2, gm2, po0_m2⟩
    have hFm2 : zFr W_13 m0 m2 := hF0.trans gm2 rfl
    show zW E (d) 13 17 [(2, 45), (0, a0), (9, 0), (9, 0), (9, 0)] [] m2 Q
    refine zw_3 zr_13_17 rfl ?_
    refine zw_push zr_13_18 ?_
    refine zw_41_4 zr_13_19 ?_ ?_
    · intro h3
      refine zw_push zr_13_26 ?_
      refine zw_9 (L' := [(2, 45), (0, a0), (0, 50), (9, 0), (9, 0)]) zr_13_28 (Nat.le_of_ble_eq_true rfl) rfl ?_
      refine zw_push zr_13_29 ?_
      refine zw_9 (L' := [(2, 45), (0, a0), (0, 50), (0, 0), (9, 0)]) zr_13_30 (Nat.le_of_ble_eq_true rfl) rfl ?_
      have lp31_6 : ∀ (nlp31_6 : Nat) (i4 : Int) (m5 : zM), zInv m5 → zFr W_13 m0 m5 → m5 45 7 = g0 → 0 ≤ i4 → i4 ≤ 50 → (50 - i4).toNat < nlp31_6 → zW E (d) 13 31 [(2, 45), (0, a0), (0, 50), (0, i4), (9, 0)] [] m5 Q := by
        intro nlp31_6
        induction nlp31_6 with
        | zero =>
          intros
          exact absurd (by assumption : _ < 0) (Nat.not_lt_zero _)
        | succ nlp31_6 ihlp31_6 =>
          intro i4 m5 hIm5 hFm5 km5_45_7 li4 ui4 hmlp31_6
          refine zw_3 zr_13_31 rfl ?_
          refine zw_3 zr_13_32 rfl ?_
          refine zw_41_3 zr_13_33 ?_ ?_
          · intro h8
            refine zw_R zr_13_82 (by decide) zm_13 (v := (9, 0)) rfl ?_
            rw [← hQ]; exact ⟨rfl, hIm5, hFm5, by omega⟩
          · intro h10
            refine zw_7 zr_13_36 rfl ?_
            refine zw_C zr_13_37 (Or.inl rfl) zm_6 rfl rfl ⟨Nat.le_of_ble_eq_true rfl, Nat.le_of_ble_eq_true rfl, Nat.le_of_ble_eq_true rfl, rfl, by decide⟩ (by omega) (th_6 (d := d - 1) (by omega) hIm5        ) ?_
            rintro _ m11 ⟨r12, rfl, hr12a, hr12b, hIm11, gm11, po0_r12⟩
            have hFm11 : zFr W_13 m0 m11 := hFm5.trans gm11 rfl
            have km11_45_7 : m11 45 7 = g0 := (gm11 45 7 rfl).trans km5_45_7
            obtain ⟨f13, ef13⟩ : ∃ v, m11 45 6 = v := ⟨_, rfl⟩
            have bf13 := ib_45_6 hIm11
            rw [ef13] at bf13
            show zW E (d) 13 40 [(2, 45), (0, a0), (0, 50), (0, i4), (9, 0)] [(0, r12)] m11 Q
            refine zw_10 (L' := [(2, 45), (0, a0), (0, 50), (0, i4), (0, r12)]) zr_13_40 (Nat.le_of_ble_eq_true rfl) rfl ?_
            refine zw_4 zr_13_42 rfl ?_
            refine zw_C zr_13_44 (Or.inr rfl) zm_7 rfl rfl ⟨Nat.le_of_ble_eq_true rfl, Nat.le_of_ble_eq_true rfl, Nat.le_of_ble_eq_true rfl, rfl, by decide⟩ (by omega) (P := (fun v m' => zW E (d) 13 47 [(2, 45), (0, a0), (0, 50), (0, i4), (0, r12)] (if v.1 = 9 then [] else v :: []) m' Q)) ?_ (fun _ _ h => h)
            generalize hQ1 : (fun v m' => zW E (d) 13 47 [(2, 45), (0, a0), (0, 50), (0, i4), (0, r12)] (if v.1 = 9 then [] else v :: []) m' Q) = Q1
            show zW E (d - 1) 7 0 [(0, r12)] [] m11 Q1
            refine zw_3 zr_7_0 rfl ?_
            by_cases h14 : r12 = 38
            · refine zw_112 (off := 85) (t := 86) zr_7_1 (by rw [h14]; rfl) rfl ?_
              refine zw_push zr_7_86 ?_
              refine zw_R zr_7_87 (by decide) zm_7 (v := (0, 1)) rfl ?_
              rw [← hQ1]
              show zW E (d) 13 47 [(2, 45), (0, a0), (0, 50), (0, i4), (0, r12)] [(0, 1)] m11 Q
              refine zw_3 zr_13_47 rfl ?_
              refine zw_41_1 zr_13_48 ?_ ?_
              · intro h15
                refine zw_7 zr_13_52 rfl ?_
                refine zw_43 zr_13_53 rfl ?_
                refine zw_46i zr_13_54 ef13 rfl rfl rfl ?_
                refine zw_push zr_13_57 ?_
                refine zw_16 zr_13_58 (by omega) ?_
                refine zw_47 (c := 45) zr_13_59 rfl ⟨rfl, by decide, rfl⟩ ?_
                intro m16 em16
                have hIm16 : zInv m16 := by rw [em16]; exact hIm11.bd (r := 45) (k := 6) (lo := 0) (hi := 50) rfl (by omega) (by decide) (by decide) (by decide)
                have hFm16 : zFr W_13 m0 m16 := by rw [em16]; exact hFm11.up rfl
                have km16_45_7 : m16 45 7 = g0 := by rw [em16, zUp_ne (by omega)]; exact km11_45_7
                have km16_45_6 : m16 45 6 = (f13 + 1) := by rw [em16]; exact zUp_eq _ _ _ _
                clear em16
                refine zw_7 zr_13_62 rfl ?_
                refine zw_3 zr_13_63 rfl ?_
                refine zw_push zr_13_64 ?_
                refine zw_16 zr_13_65 (by omega) ?_
                refine zw_C zr_13_66 (Or.inl rfl) zm_13 rfl rfl ⟨Nat.le_of_ble_eq_true rfl, Nat.le_of_ble_eq_true rfl, Nat.le_of_ble_eq_true rfl, rfl, by decide⟩ (by omega) (ih13 m16 ((a0 + 1)) (g0) (by omega) hIm16 km16_45_7  (by omega) ) ?_
                rintro _ m17 ⟨rfl, hIm17, gm17, po0_m17⟩
                have hFm17 : zFr W_13 m0 m17 := hFm16.trans gm17 rfl
                show zW E (d) 13 69 [(2, 45), (0, a0), (0, 50), (0, i4), (0, r12)] [] m17 Q
                refine zw_7 zr_13_69 rfl ?_
                refine zw_4 zr_13_70 rfl ?_
                refine zw_38 zr_13_72 (by omega) ?_
                refine zw_C zr_13_73 (Or.inl rfl) zm_8 rfl rfl ⟨Nat.le_of_ble_eq_true rfl, Nat.le_of_ble_eq_true rfl, Nat.le_of_ble_eq_true rfl, rfl, by decide⟩ (by omega) (P := (fun v m' => zW E (d) 13 76 [(2, 45), (0, a0), (0, 50), (0, i4), (0, r12)] (if v.1 = 9 then [] else v :: []) m' Q)) ?_ (fun _ _ h => h)
                generalize hQ1 : (fun v m' => zW E (d) 13 76 [(2, 45), (0, a0), (0, 50), (0, i4), (0, r12)] (if v.1 = 9 then [] else v :: []) m' Q) = Q1
                show zW E (d - 1) 8 0 [(2, 45), (0, (-r12))] [] m17 Q1
                refine zw_7 zr_8_0 rfl ?_
                obtain ⟨f18, ef18⟩ : ∃ v, m17 45 8 = v := ⟨_, rfl⟩
                have bf18 := ib_45_8 hIm17
                rw [ef18] at bf18
                refine zw_46i zr_8_1 ef18 rfl rfl rfl ?_
                refine zw_push zr_8_4 ?_
                refine zw_41_3 zr_8_6 ?_ ?_
                · intro h19
                  refine zw_R zr_8_29 (by decide) zm_8 (v := (9, 0)) rfl ?_
                  rw [← hQ1]
                  show zW E (d) 13 76 [(2, 45), (0, a0), (0, 50), (0, i4), (0, r12)] [] m17 Q
                  refine zw_15 (c := 1) (L' := [(2, 45), (0, a0), (0, 50), (0, (i4 + 1)), (0, r12)]) zr_13_76 rfl (by decide) (by omega) rfl ?_
                  refine zw_42 zr_13_79 ?_
                  exact zw_less (L := [(2, 45), (0, a0), (0, 50), (0, (i4 + 1)), (9, 0)]) ⟨Or.inr rfl, Or.inr rfl, Or.inr rfl, Or.inr rfl, Or.inl rfl, trivial⟩ (ihlp31_6 ((i4 + 1)) m17 hIm17 hFm17  po0_m17 (by omega) (by omega)  (by omega))
                · intro h20
                  refine zw_7 zr_8_9 rfl ?_
                  refine zw_46r (s := 48) zr_8_10 rfl rfl rfl rfl ?_
                  refine zw_7 zr_8_13 rfl ?_
                  refine zw_46i zr_8_14 ef18 rfl rfl rfl ?_
                  refine zw_3 zr_8_17 rfl ?_
                  refine zw_49 (c := 48) (len := 50) zr_8_18 rfl rfl (by omega) (by omega) ?_
                  intro m21 em21
                  have hIm21 : zInv m21 := by rw [em21]; exact hIm17.any (by omega) rfl (by decide) (by decide)
                  have hFm21 : zFr W_13 m0 m21 := by rw [em21]; exact hFm17.any rfl
                  have km21_45_7 : m21 45 7 = g0 := by rw [em21, zUp_ne (by omega)]; exact po0_m17
                  have km21_45_8 : m21 45 8 = f18 := by rw [em21, zUp_ne (by omega)]; exact ef18
                  clear em21
                  refine zw_7 zr_8_19 rfl ?_
                  refine zw_43 zr_8_20 rfl ?_
                  refine zw_46i zr_8_21 km21_45_8 rfl rfl rfl ?_
                  refine zw_push zr_8_24 ?_
                  refine zw_16 zr_8_25 (by omega) ?_
                  refine zw_47 (c := 45) zr_8_26 rfl ⟨rfl, by decide, rfl⟩ ?_
                  intro m22 em22
                  have hIm22 : zInv m22 := by rw [em22]; exact hIm21.bd (r := 45) (k := 8) (lo := 0) (hi := 50) rfl (by omega) (by decide) (by decide) (by decide)
                  have hFm22 : zFr W_13 m0 m22 := by rw [em22]; exact hFm21.up rfl
                  have km22_45_7 : m22 45 7 = g0 := by rw [em22, zUp_ne (by omega)]; exact km21_45_7
                  have km22_45_8 : m22 45 8 = (f18 + 1) := by rw [em22]; exact zUp_eq _ _ _ _
                  clear em22
                  refine zw_R zr_8_29 (by decide) zm_8 (v := (9, 0)) rfl ?_
                  rw [← hQ1]
                  show zW E (d) 13 76 [(2, 45), (0, a0), (0, 50), (0, i4), (0, r12)] [] m22 Q
                  refine zw_15 (c := 1) (L' := [(2, 45), (0, a0), (0, 50), (0, (i4 + 1)), (0, r12)]) zr_13_76 rfl (by decide) (by omega) rfl ?_
                  refine zw_42 zr_13_79 ?_
                  exact zw_less (L := [(2, 45), (0, a0), (0, 50), (0, (i4 + 1)), (9, 0)]) ⟨Or.inr rfl, Or.inr rfl, Or.inr rfl, Or.inr rfl, Or.inl rfl, trivial⟩ (ihlp31_6 ((i4 + 1)) m22 hIm22 hFm22  km22_45_7 (by omega) (by omega)  (by omega))
              · intro h23
                refine zw_R zr_13_51 (by decide) zm_13 (v := (9, 0)) rfl ?_
                rw [← hQ]; exact ⟨rfl, hIm11, hFm11, by omega⟩
            by_cases h25 : r12 = 42
            · refine zw_112 (off := 91) (t := 92) zr_7_1 (by rw [h25]; rfl) rfl ?_
              refine zw_push zr_7_92 ?_
              refine zw_R zr_7_93 (by decide) zm_7 (v := (0, 4)) rfl ?_
              rw [← hQ1]
              show zW E (d) 13 47 [(2, 45), (0, a0), (0, 50), (0, i4), (0, r12)] [(0, 4)] m11 Q
              refine zw_3 zr_13_47 rfl ?_
              refine zw_41_1 zr_13_48 ?_ ?_
              · intro h26
                refine zw_7 zr_13_52 rfl ?_
                refine zw_43 zr_13_53 rfl ?_
                refine zw_46i zr_13_54 ef13 rfl rfl rfl ?_
                refine zw_push zr_13_57 ?_
                refine zw_16 zr_13_58 (by omega) ?_
                refine zw_47 (c := 45) zr_13_59 rfl ⟨rfl, by decide, rfl⟩ ?_
                intro m27 em27
                have hIm27 : zInv m27 := by rw [em27]; exact hIm11.bd (r := 45) (k := 6) (lo := 0) (hi := 50) rfl (by omega) (by decide) (by decide) (by decide)
                have hFm27 : zFr W_13 m0 m27 := by rw [em27]; exact hFm11.up rfl
                have km27_45_7 : m27 45 7 = g0 := by rw [em27, zUp_ne (by omega)]; exact km11_45_7
                have km27_45_6 : m27 45 6 = (f13 + 1) := by rw [em27]; exact zUp_eq _ _ _ _
                clear em27
                refine zw_7 zr_13_62 rfl ?_
                refine zw_3 zr_13_63 rfl ?_
                refine zw_push zr_13_64 ?_
                refine zw_16 zr_13_65 (by omega) ?_
                refine zw_C zr_13_66 (Or.inl rfl) zm_13 rfl rfl ⟨Nat.le_of_ble_eq_true rfl, Nat.le_of_ble_eq_true rfl, Nat.le_of_ble_eq_true rfl, rfl, by decide⟩ (by omega) (ih13 m27 ((a0 + 1)) (g0) (by omega) hIm27 km27_45_7  (by omega) ) ?_
                rintro _ m28 ⟨rfl, hIm28, gm28, po0_m28⟩
                have hFm28 : zFr W_13 m0 m28 := hFm27.trans gm28 rfl
                show zW E (d) 13 69 [(2, 45), (0, a0), (0, 50), (0, i4), (0, r12)] [] m28 Q
                refine zw_7 zr_13_69 rfl ?_
                refine zw_4 zr_13_70 rfl ?_
                refine zw_38 zr_13_72 (by omega) ?_
                refine zw_C zr_13_73 (Or.inl rfl) zm_8 rfl rfl ⟨Nat.le_of_ble_eq_true rfl, Nat.le_of_ble_eq_true rfl, Nat.le_of_ble_eq_true rfl, rfl, by decide⟩ (by omega) (P := (fun v m' => zW E (d) 13 76 [(2, 45), (0, a0), (0, 50), (0, i4), (0, r12)] (if v.1 = 9 then [] else v :: []) m' Q)) ?_ (fun _ _ h => h)
                generalize hQ1 : (fun v m' => zW E (d) 13 76 [(2, 45), (0, a0), (0, 50), (0, i4), (0, r12)] (if v.1 = 9 then [] else v :: []) m' Q) = Q1
                show zW E (d - 1) 8 0 [(2, 45), (0, (-r12))] [] m28 Q1
                refine zw_7 zr_8_0 rfl ?_
                obtain ⟨f29, ef29⟩ : ∃ v, m28 45 8 = v := ⟨_, rfl⟩
                have bf29 := ib_45_8 hIm28
                rw [ef29] at bf29
                refine zw_46i zr_8_1 ef29 rfl rfl rfl ?_
                refine zw_push zr_8_4 ?_
                refine zw_41_3 zr_8_6 ?_ ?_
                · intro h30
                  refine zw_R zr_8_29 (by decide) zm_8 (v := (9, 0)) rfl ?_
                  rw [← hQ1]
                  show zW E (d) 13 76 [(2, 45), (0, a0), (0, 50), (0, i4), (0, r12)] [] m28 Q
                  refine zw_15 (c := 1) (L' := [(2, 45), (0, a0), (0, 50), (0, (i4 + 1)), (0, r12)]) zr_13_76 rfl (by decide) (by omega) rfl ?_
                  refine zw_42 zr_13_79 ?_
                  exact zw_less (L := [(2, 45), (0, a0), (0, 50), (0, (i4 + 1)), (9, 0)]) ⟨Or.inr rfl, Or.inr rfl, Or.inr rfl, Or.inr rfl, Or.inl rfl, trivial⟩ (ihlp31_6 ((i4 + 1)) m28 hIm28 hFm28  po0_m28 (by omega) (by omega)  (by omega))
                · intro h31
                  refine zw_7 zr_8_9 rfl ?_
                  refine zw_46r (s := 48) zr_8_10 rfl rfl rfl rfl ?_
                  refine zw_7 zr_8_13 rfl ?_
                  refine zw_46i zr_8_14 ef29 rfl rfl rfl ?_
                  refine zw_3 zr_8_17 rfl ?_
                  refine zw_49 (c := 48) (len := 50) zr_8_18 rfl rfl (by omega) (by omega) ?_
                  intro m32 em32
                  have hIm32 : zInv m32 := by rw [em32]; exact hIm28.any (by omega) rfl (by decide) (by decide)
                  have hFm32 : zFr W_13 m0 m32 := by rw [em32]; exact hFm28.any rfl
                  have km32_45_7 : m32 45 7 = g0 := by rw [em32, zUp_ne (by omega)]; exact po0_m28
                  have km32_45_8 : m32 45 8 = f29 := by rw [em32, zUp_ne (by omega)]; exact ef29
                  clear em32
                  refine zw_7 zr_8_19 rfl ?_
                  refine zw_43 zr_8_20 rfl ?_
                  refine zw_46i zr_8_21 km32_45_8 rfl rfl rfl ?_
                  refine zw_push zr_8_24 ?_
                  refine zw_16 zr_8_25 (by omega) ?_
                  refine zw_47 (c := 45) zr_8_26 rfl ⟨rfl, by decide, rfl⟩ ?_
                  intro m33 em33
                  have hIm33 : zInv m33 := by rw [em33]; exact hIm32.bd (r := 45) (k := 8) (lo := 0) (hi := 50) rfl (by omega) (by decide) (by decide) (by decide)
                  have hFm33 : zFr W_13 m0 m33 := by rw [em33]; exact hFm32.up rfl
                  have km33_45_7 : m33 45 7 = g0 := by rw [em33, zUp_ne (by omega)]; exact km32_45_7
                  have km33_45_8 : m33 45 8 = (f29 + 1) := by rw [em33]; exact zUp_eq _ _ _ _
                  clear em33
                  refine zw_R zr_8_29 (by decide) zm_8 (v := (9, 0)) rfl ?_
                  rw [← hQ1]
                  show zW E (d) 13 76 [(2, 45), (0, a0), (0, 50), (0, i4), (0, r12)] [] m33 Q
                  refine zw_15 (c := 1) (L' := [(2, 45), (0, a0), (0, 50), (0, (i4 + 1)), (0, r12)]) zr_13_76 rfl (by decide) (by omega) rfl ?_
                  refine zw_42 zr_13_79 ?_
                  exact zw_less (L := [(2, 45), (0, a0), (0, 50), (0, (i4 + 1)), (9, 0)]) ⟨Or.inr rfl, Or.inr rfl, Or.inr rfl, Or.inr rfl, Or.inl rfl, trivial⟩ (ihlp31_6 ((i4 + 1)) m33 hIm33 hFm33  km33_45_7 (by omega) (by omega)  (by omega))
              · intro h34
                refine zw_R zr_13_51 (by decide) zm_13 (v := (9, 0)) rfl ?_
                rw [← hQ]; exact ⟨rfl, hIm11, hFm11, by omega⟩
            by_cases h36 : r12 = 43
            · refine zw_112 (off := 89) (t := 90) zr_7_1 (by rw [h36]; rfl) rfl ?_
              refine zw_push zr_7_90 ?_
              refine zw_R zr_7_91 (by decide) zm_7 (v := (0, 3)) rfl ?_
              rw [← hQ1]
              show zW E (d) 13 47 [(2, 45), (0, a0), (0, 50), (0, i4), (0, r12)] [(0, 3)] m11 Q
              refine zw_3 zr_13_47 rfl ?_
              refine zw_41_1 zr_13_48 ?_ ?_
              · intro h37
                refine zw_7 zr_13_52 rfl ?_
                refine zw_43 zr_13_53 rfl ?_
                refine zw_46i zr_13_54 ef13 rfl rfl rfl ?_
                refine zw_push zr_13_57 ?_
                refine zw_16 zr_13_58 (by omega) ?_
                refine zw_47 (c := 45) zr_13_59 rfl ⟨rfl, by decide, rfl⟩ ?_
                intro m38 em38
                have hIm38 : zInv m38 := by rw [em38]; exact hIm11.bd (r := 45) (k := 6) (lo := 0) (hi := 50) rfl (by omega) (by decide) (by decide) (by decide)
                have hFm38 : zFr W_13 m0 m38 := by rw [em38]; exact hFm11.up rfl
                have km38_45_7 : m38 45 7 = g0 := by rw [em38, zUp_ne (by omega)]; exact km11_45_7
                have km38_45_6 : m38 45 6 = (f13 + 1) := by rw [em38]; exact zUp_eq _ _ _ _
                clear em38
                refine zw_7 zr_13_62 rfl ?_
                refine zw_3 zr_13_63 rfl ?_
                refine zw_push zr_13_64 ?_
                refine zw_16 zr_13_65 (by omega) ?_
                refine zw_C zr_13_66 (Or.inl rfl) zm_13 rfl rfl ⟨Nat.le_of_ble_eq_true rfl, Nat.le_of_ble_eq_true rfl, Nat.le_of_ble_eq_true rfl, rfl, by decide⟩ (by omega) (ih13 m38 ((a0 + 1)) (g0) (by omega) hIm38 km38_45_7  (by omega) ) ?_
                rintro _ m39 ⟨rfl, hIm39, gm39, po0_m39⟩
                have hFm39 : zFr W_13 m0 m39 := hFm38.trans gm39 rfl
                show zW E (d) 13 69 [(2, 45), (0, a0), (0, 50), (0, i4), (0, r12)] [] m39 Q
                refine zw_7 zr_13_69 rfl ?_
                refine zw_4 zr_13_70 rfl ?_
                refine zw_38 zr_13_72 (by omega) ?_
                refine zw_C zr_13_73 (Or.inl rfl) zm_8 rfl rfl ⟨Nat.le_of_ble_eq_true rfl, Nat.le_of_ble_eq_true rfl, Nat.le_of_ble_eq_true rfl, rfl, by decide⟩ (by omega) (P := (fun v m' => zW E (d) 13 76 [(2, 45), (0, a0), (0, 50), (0, i4), (0, r12)] (if v.1 = 9 then [] else v :: []) m' Q)) ?_ (fun _ _ h => h)
                generalize hQ1 : (fun v m' => zW E (d) 13 76 [(2, 45), (0, a0), (0, 50), (0, i4), (0, r12)] (if v.1 = 9 then [] else v :: []) m' Q) = Q1
                show zW E (d - 1) 8 0 [(2, 45), (0, (-r12))] [] m39 Q1
                refine zw_7 zr_8_0 rfl ?_
                obtain ⟨f40, ef40⟩ : ∃ v, m39 45 8 = v := ⟨_, rfl⟩
                have bf40 := ib_45_8 hIm39
                rw [ef40] at bf40
                refine zw_46i zr_8_1 ef40 rfl rfl rfl ?_
                refine zw_push zr_8_4 ?_
                refine zw_41_3 zr_8_6 ?_ ?_
                · intro h41
                  refine zw_R zr_8_29 (by decide) zm_8 (v := (9, 0)) rfl ?_
                  rw [← hQ1]
                  show zW E (d) 13 76 [(2, 45), (0, a0), (0, 50), (0, i4), (0, r12)] [] m39 Q
                  refine zw_15 (c := 1) (L' := [(2, 45), (0, a0), (0, 50), (0, (i4 + 1)), (0, r12)]) zr_13_76 rfl (by decide) (by omega) rfl ?_
                  refine zw_42 zr_13_79 ?_
                  exact zw_less (L := [(2, 45), (0, a0), (0, 50), (0, (i4 + 1)), (9, 0)]) ⟨Or.inr rfl, Or.inr rfl, Or.inr rfl, Or.inr rfl, Or.inl rfl, trivial⟩ (ihlp31_6 ((i4 + 1)) m39 hIm39 hFm39  po0_m39 (by omega) (by omega)  (by omega))
                · intro h42
                  refine zw_7 zr_8_9 rfl ?_
                  refine zw_46r (s := 48) zr_8_10 rfl rfl rfl rfl ?_
                  refine zw_7 zr_8_13 rfl ?_
                  refine zw_46i zr_8_14 ef40 rfl rfl rfl ?_
                  refine zw_3 zr_8_17 rfl ?_
                  refine zw_49 (c := 48) (len := 50) zr_8_18 rfl rfl (by omega) (by omega) ?_
                  intro m43 em43
                  have hIm43 : zInv m43 := by rw [em43]; exact hIm39.any (by omega) rfl (by decide) (by decide)
                  have hFm43 : zFr W_13 m0 m43 := by rw [em43]; exact hFm39.any rfl
                  have km43_45_7 : m43 45 7 = g0 := by rw [em43, zUp_ne (by omega)]; exact po0_m39
                  have km43_45_8 : m43 45 8 = f40 := by rw [em43, zUp_ne (by omega)]; exact ef40
                  clear em43
                  refine zw_7 zr_8_19 rfl ?_
                  refine zw_43 zr_8_20 rfl ?_
                  refine zw_46i zr_8_21 km43_45_8 rfl rfl rfl ?_
                  refine zw_push zr_8_24 ?_
                  refine zw_16 zr_8_25 (by omega) ?_
                  refine zw_47 (c := 45) zr_8_26 rfl ⟨rfl, by decide, rfl⟩ ?_
                  intro m44 em44
                  have hIm44 : zInv m44 := by rw [em44]; exact hIm43.bd (r := 45) (k := 8) (lo := 0) (hi := 50) rfl (by omega) (by decide) (by decide) (by decide)
                  have hFm44 : zFr W_13 m0 m44 := by rw [em44]; exact hFm43.up rfl
                  have km44_45_7 : m44 45 7 = g0 := by rw [em44, zUp_ne (by omega)]; exact km43_45_7
                  have km44_45_8 : m44 45 8 = (f40 + 1) := by rw [em44]; exact zUp_eq _ _ _ _
                  clear em44
                  refine zw_R zr_8_29 (by decide) zm_8 (v := (9, 0)) rfl ?_
                  rw [← hQ1]
                  show zW E (d) 13 76 [(2, 45), (0, a0), (0, 50), (0, i4), (0, r12)] [] m44 Q
                  refine zw_15 (c := 1) (L' := [(2, 45), (0, a0), (0, 50), (0, (i4 + 1)), (0, r12)]) zr_13_76 rfl (by decide) (by omega) rfl ?_
                  refine zw_42 zr_13_79 ?_
                  exact zw_less (L := [(2, 45), (0, a0), (0, 50), (0, (i4 + 1)), (9, 0)]) ⟨Or.inr rfl, Or.inr rfl, Or.inr rfl, Or.inr rfl, Or.inl rfl, trivial⟩ (ihlp31_6 ((i4 + 1)) m44 hIm44 hFm44  km44_45_7 (by omega) (by omega)  (by omega))
              · intro h45
                refine zw_R zr_13_51 (by decide) zm_13 (v := (9, 0)) rfl ?_
                rw [← hQ]; exact ⟨rfl, hIm11, hFm11, by omega⟩
            by_cases h47 : r12 = 45
            · refine zw_112 (off := 89) (t := 90) zr_7_1 (by rw [h47]; rfl) rfl ?_
              refine zw_push zr_7_90 ?_
              refine zw_R zr_7_91 (by decide) zm_7 (v := (0, 3)) rfl ?_
              rw [← hQ1]
              show zW E (d) 13 47 [(2, 45), (0, a0), (0, 50), (0, i4), (0, r12)] [(0, 3)] m11 Q
              refine zw_3 zr_13_47 rfl ?_
              refine zw_41_1 zr_13_48 ?_ ?_
              · intro h48
                refine zw_7 zr_13_52 rfl ?_
                refine zw_43 zr_13_53 rfl ?_
                refine zw_46i zr_13_54 ef13 rfl rfl rfl ?_
                refine zw_push zr_13_57 ?_
                refine zw_16 zr_13_58 (by omega) ?_
                refine zw_47 (c := 45) zr_13_59 rfl ⟨rfl, by decide, rfl⟩ ?_
                intro m49 em49
                have hIm49 : zInv m49 := by rw [em49]; exact hIm11.bd (r := 45) (k := 6) (lo := 0) (hi := 50) rfl (by omega) (by decide) (by decide) (by decide)
                have hFm49 : zFr W_13 m0 m49 := by rw [em49]; exact hFm11.up rfl
                have km49_45_7 : m49 45 7 = g0 := by rw [em49, zUp_ne (by omega)]; exact km11_45_7
                have km49_45_6 : m49 45 6 = (f13 + 1) := by rw [em49]; exact zUp_eq _ _ _ _
                clear em49
                refine zw_7 zr_13_62 rfl ?_
                refine zw_3 zr_13_63 rfl ?_
                refine zw_push zr_13_64 ?_
                refine zw_16 zr_13_65 (by omega) ?_
                refine zw_C zr_13_66 (Or.inl rfl) zm_13 rfl rfl ⟨Nat.le_of_ble_eq_true rfl, Nat.le_of_ble_eq_true rfl, Nat.le_of_ble_eq_true rfl, rfl, by decide⟩ (by omega) (ih13 m49 ((a0 + 1)) (g0) (by omega) hIm49 km49_45_7  (by omega) ) ?_
                rintro _ m50 ⟨rfl, hIm50, gm50, po0_m50⟩
                have hFm50 : zFr W_13 m0 m50 := hFm49.trans gm50 rfl
                show zW E (d) 13 69 [(2, 45), (0, a0), (0, 50), (0, i4), (0, r12)] [] m50 Q
                refine zw_7 zr_13_69 rfl ?_
                refine zw_4 zr_13_70 rfl ?_
                refine zw_38 zr_13_72 (by omega) ?_
                refine zw_C zr_13_73 (Or.inl rfl) zm_8 rfl rfl ⟨Nat.le_of_ble_eq_true rfl, Nat.le_of_ble_eq_true rfl, Nat.le_of_ble_eq_true rfl, rfl, by decide⟩ (by omega) (P := (fun v m' => zW E (d) 13 76 [(2, 45), (0, a0), (0, 50), (0, i4), (0, r12)] (if v.1 = 9 then [] else v :: []) m' Q)) ?_ (fun _ _ h => h)
                generalize hQ1 : (fun v m' => zW E (d) 13 76 [(2, 45), (0, a0), (0, 50), (0, i4), (0, r12)] (if v.1 = 9 then [] else v :: []) m' Q) = Q1
                show zW E (d - 1) 8 0 [(2, 45), (0, (-r12))] [] m50 Q1
                refine zw_7 zr_8_0 rfl ?_
                obtain ⟨f51, ef51⟩ : ∃ v, m50 45 8 = v := ⟨_, rfl⟩
                have bf51 := ib_45_8 hIm50
                rw [ef51] at bf51
                refine zw_46i zr_8_1 ef51 rfl rfl rfl ?_
                refine zw_push zr_8_4 ?_
                refine zw_41_3 zr_8_6 ?_ ?_
                · intro h52
                  refine zw_R zr_8_29 (by decide) zm_8 (v := (9, 0)) rfl ?_
                  rw [← hQ1]
                  show zW E (d) 13 76 [(2, 45), (0, a0), (0, 50), (0, i4), (0, r12)] [] m50 Q
                  refine zw_15 (c := 1) (L' := [(2, 45), (0, a0), (0, 50), (0, (i4 + 1)), (0, r12)]) zr_13_76 rfl (by decide) (by omega) rfl ?_
                  refine zw_42 zr_13_79 ?_
                  exact zw_less (L := [(2, 45), (0, a0), (0, 50), (0, (i4 + 1)), (9, 0)]) ⟨Or.inr rfl, Or.inr rfl, Or.inr rfl, Or.inr rfl, Or.inl rfl, trivial⟩ (ihlp31_6 ((i4 + 1)) m50 hIm50 hFm50  po0_m50 (by omega) (by omega)  (by omega))
                · intro h53
                  refine zw_7 zr_8_9 rfl ?_
                  refine zw_46r (s := 48) zr_8_10 rfl rfl rfl rfl ?_
                  refine zw_7 zr_8_13 rfl ?_
                  refine zw_46i zr_8_14 ef51 rfl rfl rfl ?_
                  refine zw_3 zr_8_17 rfl ?_
                  refine zw_49 (c := 48) (len := 50) zr_8_18 rfl rfl (by omega) (by omega) ?_
                  intro m54 em54
                  have hIm54 : zInv m54 := by rw [em54]; exact hIm50.any (by omega) rfl (by decide) (by decide)
                  have hFm54 : zFr W_13 m0 m54 := by rw [em54]; exact hFm50.any rfl
                  have km54_45_7 : m54 45 7 = g0 := by rw [em54, zUp_ne (by omega)]; exact po0_m50
                  have km54_45_8 : m54 45 8 = f51 := by rw [em54, zUp_ne (by omega)]; exact ef51
                  clear em54
                  refine zw_7 zr_8_19 rfl ?_
                  refine zw_43 zr_8_20 rfl ?_
                  refine zw_46i zr_8_21 km54_45_8 rfl rfl rfl ?_
                  refine zw_push zr_8_24 ?_
                  refine zw_16 zr_8_25 (by omega) ?_
                  refine zw_47 (c := 45) zr_8_26 rfl ⟨rfl, by decide, rfl⟩ ?_
                  intro m55 em55
                  have hIm55 : zInv m55 := by rw [em55]; exact hIm54.bd (r := 45) (k := 8) (lo := 0) (hi := 50) rfl (by omega) (by decide) (by decide) (by decide)
                  have hFm55 : zFr W_13 m0 m55 := by rw [em55]; exact hFm54.up rfl
                  have km55_45_7 : m55 45 7 = g0 := by rw [em55, zUp_ne (by omega)]; exact km54_45_7
                  have km55_45_8 : m55 45 8 = (f51 + 1) := by rw [em55]; exact zUp_eq _ _ _ _
                  clear em55
                  refine zw_R zr_8_29 (by decide) zm_8 (v := (9, 0)) rfl ?_
                  rw [← hQ1]
                  show zW E (d) 13 76 [(2, 45), (0, a0), (0, 50), (0, i4), (0, r12)] [] m55 Q
                  refine zw_15 (c := 1) (L' := [(2, 45), (0, a0), (0, 50), (0, (i4 + 1)), (0, r12)]) zr_13_76 rfl (by decide) (by omega) rfl ?_
                  refine zw_42 zr_13_79 ?_
                  exact zw_less (L := [(2, 45), (0, a0), (0, 50), (0, (i4 + 1)), (9, 0)]) ⟨Or.inr rfl, Or.inr rfl, Or.inr rfl, Or.inr rfl, Or.inl rfl, trivial⟩ (ihlp31_6 ((i4 + 1)) m55 hIm55 hFm55  km55_45_7 (by omega) (by omega)  (by omega))
              · intro h56
                refine zw_R zr_13_51 (by decide) zm_13 (v := (9, 0)) rfl ?_
                rw [← hQ]; exact ⟨rfl, hIm11, hFm11, by omega⟩
            by_cases h58 : r12 = 47
            · refine zw_112 (off := 91) (t := 92) zr_7_1 (by rw [h58]; rfl) rfl ?_
              refine zw_push zr_7_92 ?_
              refine zw_R zr_7_93 (by decide) zm_7 (v := (0, 4)) rfl ?_
              rw [← hQ1]
              show zW E (d) 13 47 [(2, 45), (0, a0), (0, 50), (0, i4), (0, r12)] [(0, 4)] m11 Q
              refine zw_3 zr_13_47 rfl ?_
              refine zw_41_1 zr_13_48 ?_ ?_
              · intro h59
                refine zw_7 zr_13_52 rfl ?_
                refine zw_43 zr_13_53 rfl ?_
                refine zw_46i zr_13_54 ef13 rfl rfl rfl ?_
                refine zw_push zr_13_57 ?_
                refine zw_16 zr_13_58 (by omega) ?_
                refine zw_47 (c := 45) zr_13_59 rfl ⟨rfl, by decide, rfl⟩ ?_
                intro m60 em60
                have hIm60 : zInv m60 := by rw [em60]; exact hIm11.bd (r := 45) (k := 6) (lo := 0) (hi := 50) rfl (by omega) (by decide) (by decide) (by decide)
                have hFm60 : zFr W_13 m0 m60 := by rw [em60]; exact hFm11.up rfl
                have km60_45_7 : m60 45 7 = g0 := by rw [em60, zUp_ne (by omega)]; exact km11_45_7
                have km60_45_6 : m60 45 6 = (f13 + 1) := by rw [em60]; exact zUp_eq _ _ _ _
                clear em60
                refine zw_7 zr_13_62 rfl ?_
                refine zw_3 zr_13_63 rfl ?_
                refine zw_push zr_13_64 ?_
                refine zw_16 zr_13_65 (by omega) ?_
                refine zw_C zr_13_66 (Or.inl rfl) zm_13 rfl rfl ⟨Nat.le_of_ble_eq_true rfl, Nat.le_of_ble_eq_true rfl, Nat.le_of_ble_eq_true rfl, rfl, by decide⟩ (by omega) (ih13 m60 ((a0 + 1)) (g0) (by omega) hIm60 km60_45_7  (by omega) ) ?_
                rintro _ m61 ⟨rfl, hIm61, gm61, po0_m61⟩
                have hFm61 : zFr W_13 m0 m61 := hFm60.trans gm61 rfl
                show zW E (d) 13 69 [(2, 45), (0, a0), (0, 50), (0, i4), (0, r12)] [] m61 Q
                refine zw_7 zr_13_69 rfl ?_
                refine zw_4 zr_13_70 rfl ?_
                refine zw_38 zr_13_72 (by omega) ?_
                refine zw_C zr_13_73 (Or.inl rfl) zm_8 rfl rfl ⟨Nat.le_of_ble_eq_true rfl, Nat.le_of_ble_eq_true rfl, Nat.le_of_ble_eq_true rfl, rfl, by decide⟩ (by omega) (P := (fun v m' => zW E (d) 13 76 [(2, 45), (0, a0), (0, 50), (0, i4), (0, r12)] (if v.1 = 9 then [] else v :: []) m' Q)) ?_ (fun _ _ h => h)
                generalize hQ1 : (fun v m' => zW E (d) 13 76 [(2, 45), (0, a0), (0, 50), (0, i4), (0, r12)] (if v.1 = 9 then [] else v :: []) m' Q) = Q1
                show zW E (d - 1) 8 0 [(2, 45), (0, (-r12))] [] m61 Q1
                refine zw_7 zr_8_0 rfl ?_
                obtain ⟨f62, ef62⟩ : ∃ v, m61 45 8 = v := ⟨_, rfl⟩
                have bf62 := ib_45_8 hIm61
                rw [ef62] at bf62
                refine zw_46i zr_8_1 ef62 rfl rfl rfl ?_
                refine zw_push zr_8_4 ?_
                refine zw_41_3 zr_8_6 ?_ ?_
                · intro h63
                  refine zw_R zr_8_29 (by decide) zm_8 (v := (9, 0)) rfl ?_
                  rw [← hQ1]
                  show zW E (d) 13 76 [(2, 45), (0, a0), (0, 50), (0, i4), (0, r12)] [] m61 Q
                  refine zw_15 (c := 1) (L' := [(2, 45), (0, a0), (0, 50), (0, (i4 + 1)), (0, r12)]) zr_13_76 rfl (by decide) (by omega) rfl ?_
                  refine zw_42 zr_13_79 ?_
                  exact zw_less (L := [(2, 45), (0, a0), (0, 50), (0, (i4 + 1)), (9, 0)]) ⟨Or.inr rfl, Or.inr rfl, Or.inr rfl, Or.inr rfl, Or.inl rfl, trivial⟩ (ihlp31_6 ((i4 + 1)) m61 hIm61 hFm61  po0_m61 (by omega) (by omega)  (by omega))
                · intro h64
                  refine zw_7 zr_8_9 rfl ?_
                  refine zw_46r (s := 48) zr_8_10 rfl rfl rfl rfl ?_
                  refine zw_7 zr_8_13 rfl ?_
                  refine zw_46i zr_8_14 ef62 rfl rfl rfl ?_
                  refine zw_3 zr_8_17 rfl ?_
                  refine zw_49 (c := 48) (len := 50) zr_8_18 rfl rfl (by omega) (by omega) ?_
                  intro m65 em65
                  have hIm65 : zInv m65 := by rw [em65]; exact hIm61.any (by omega) rfl (by decide) (by decide)
                  have hFm65 : zFr W_13 m0 m65 := by rw [em65]; exact hFm61.any rfl
                  have km65_45_7 : m65 45 7 = g0 := by rw [em65, zUp_ne (by omega)]; exact po0_m61
                  have km65_45_8 : m65 45 8 = f62 := by rw [em65, zUp_ne (by omega)]; exact ef62
                  clear em65
                  refine zw_7 zr_8_19 rfl ?_
                  refine zw_43 zr_8_20 rfl ?_
                  refine zw_46i zr_8_21 km65_45_8 rfl rfl rfl ?_
                  refine zw_push zr_8_24 ?_
                  refine zw_16 zr_8_25 (by omega) ?_
                  refine zw_47 (c := 45) zr_8_26 rfl ⟨rfl, by decide, rfl⟩ ?_
                  intro m66 em66
                  have hIm66 : zInv m66 := by rw [em66]; exact hIm65.bd (r := 45) (k := 8) (lo := 0) (hi := 50) rfl (by omega) (by decide) (by decide) (by decide)
                  have hFm66 : zFr W_13 m0 m66 := by rw [em66]; exact hFm65.up rfl
                  have km66_45_7 : m66 45 7 = g0 := by rw [em66, zUp_ne (by omega)]; exact km65_45_7
                  have km66_45_8 : m66 45 8 = (f62 + 1) := by rw [em66]; exact zUp_eq _ _ _ _
                  clear em66
                  refine zw_R zr_8_29 (by decide) zm_8 (v := (9, 0)) rfl ?_
                  rw [← hQ1]
                  show zW E (d) 13 76 [(2, 45), (0, a0), (0, 50), (0, i4), (0, r12)] [] m66 Q
                  refine zw_15 (c := 1) (L' := [(2, 45), (0, a0), (0, 50), (0, (i4 + 1)), (0, r12)]) zr_13_76 rfl (by decide) (by omega) rfl ?_
                  refine zw_42 zr_13_79 ?_
                  exact zw_less (L := [(2, 45), (0, a0), (0, 50), (0, (i4 + 1)), (9, 0)]) ⟨Or.inr rfl, Or.inr rfl, Or.inr rfl, Or.inr rfl, Or.inl rfl, trivial⟩ (ihlp31_6 ((i4 + 1)) m66 hIm66 hFm66  km66_45_7 (by omega) (by omega)  (by omega))
              · intro h67
                refine zw_R zr_13_51 (by decide) zm_13 (v := (9, 0)) rfl ?_
                rw [← hQ]; exact ⟨rfl, hIm11, hFm11, by omega⟩
            by_cases h69 : r12 = 60
            · refine zw_112 (off := 87) (t := 88) zr_7_1 (by rw [h69]; rfl) rfl ?_
              refine zw_push zr_7_88 ?_
              refine zw_R zr_7_89 (by decide) zm_7 (v := (0, 2)) rfl ?_
              rw [← hQ1]
              show zW E (d) 13 47 [(2, 45), (0, a0), (0, 50), (0, i4), (0, r12)] [(0, 2)] m11 Q
              refine zw_3 zr_13_47 rfl ?_
              refine zw_41_1 zr_13_48 ?_ ?_
              · intro h70
                refine zw_7 zr_13_52 rfl ?_
                refine zw_43 zr_13_53 rfl ?_
                refine zw_46i zr_13_54 ef13 rfl rfl rfl ?_
                refine zw_push zr_13_57 ?_
                refine zw_16 zr_13_58 (by omega) ?_
                refine zw_47 (c := 45) zr_13_59 rfl ⟨rfl, by decide, rfl⟩ ?_
                intro m71 em71
                have hIm71 : zInv m71 := by rw [em71]; exact hIm11.bd (r := 45) (k := 6) (lo := 0) (hi := 50) rfl (by omega) (by decide) (by decide) (by decide)
                have hFm71 : zFr W_13 m0 m71 := by rw [em71]; exact hFm11.up rfl
                have km71_45_7 : m71 45 7 = g0 := by rw [em71, zUp_ne (by omega)]; exact km11_45_7
                have km71_45_6 : m71 45 6 = (f13 + 1) := by rw [em71]; exact zUp_eq _ _ _ _
                clear em71
                refine zw_7 zr_13_62 rfl ?_
                refine zw_3 zr_13_63 rfl ?_
                refine zw_push zr_13_64 ?_
                refine zw_16 zr_13_65 (by omega) ?_
                refine zw_C zr_13_66 (Or.inl rfl) zm_13 rfl rfl ⟨Nat.le_of_ble_eq_true rfl, Nat.le_of_ble_eq_true rfl, Nat.le_of_ble_eq_true rfl, rfl, by decide⟩ (by omega) (ih13 m71 ((a0 + 1)) (g0) (by omega) hIm71 km71_45_7  (by omega) ) ?_
                rintro _ m72 ⟨rfl, hIm72, gm72, po0_m72⟩
                have hFm72 : zFr W_13 m0 m72 := hFm71.trans gm72 rfl
                show zW E (d) 13 69 [(2, 45), (0, a0), (0, 50), (0, i4), (0, r12)] [] m72 Q
                refine zw_7 zr_13_69 rfl ?_
                refine zw_4 zr_13_70 rfl ?_
                refine zw_38 zr_13_72 (by omega) ?_
                refine zw_C zr_13_73 (Or.inl rfl) zm_8 rfl rfl ⟨Nat.le_of_ble_eq_true rfl, Nat.le_of_ble_eq_true rfl, Nat.le_of_ble_eq_true rfl, rfl, by decide⟩ (by omega) (P := (fun v m' => zW E (d) 13 76 [(2, 45), (0, a0), (0, 50), (0, i4), (0, r12)] (if v.1 = 9 then [] else v :: []) m' Q)) ?_ (fun _ _ h => h)
                generalize hQ1 : (fun v m' => zW E (d) 13 76 [(2, 45), (0, a0), (0, 50), (0, i4), (0, r12)] (if v.1 = 9 then [] else v :: []) m' Q) = Q1
                show zW E (d - 1) 8 0 [(2, 45), (0, (-r12))] [] m72 Q1
                refine zw_7 zr_8_0 rfl ?_
                obtain ⟨f73, ef73⟩ : ∃ v, m72 45 8 = v := ⟨_, rfl⟩
                have bf73 := ib_45_8 hIm72
                rw [ef73] at bf73
                refine zw_46i zr_8_1 ef73 rfl rfl rfl ?_
                refine zw_push zr_8_4 ?_
                refine zw_41_3 zr_8_6 ?_ ?_
                · intro h74
                  refine zw_R zr_8_29 (by decide) zm_8 (v := (9, 0)) rfl ?_
                  rw [← hQ1]
                  show zW E (d) 13 76 [(2, 45), (0, a0), (0, 50), (0, i4), (0, r12)] [] m72 Q
                  refine zw_15 (c := 1) (L' := [(2, 45), (0, a0), (0, 50), (0, (i4 + 1)), (0, r12)]) zr_13_76 rfl (by decide) (by omega) rfl ?_
                  refine zw_42 zr_13_79 ?_
                  exact zw_less (L := [(2, 45), (0, a0), (0, 50), (0, (i4 + 1)), (9, 0)]) ⟨Or.inr rfl, Or.inr rfl, Or.inr rfl, Or.inr rfl, Or.inl rfl, trivial⟩ (ihlp31_6 ((i4 + 1)) m72 hIm72 hFm72  po0_m72 (by omega) (by omega)  (by omega))
                · intro h75
                  refine zw_7 zr_8_9 rfl ?_
                  refine zw_46r (s := 48) zr_8_10 rfl rfl rfl rfl ?_
                  refine zw_7 zr_8_13 rfl ?_
                  refine zw_46i zr_8_14 ef73 rfl rfl rfl ?_
                  refine zw_3 zr_8_17 rfl ?_
                  refine zw_49 (c := 48) (len := 50) zr_8_18 rfl rfl (by omega) (by omega) ?_
                  intro m76 em76
                  have hIm76 : zInv m76 := by rw [em76]; exact hIm72.any (by omega) rfl (by decide) (by decide)
                  have hFm76 : zFr W_13 m0 m76 := by rw [em76]; exact hFm72.any rfl
                  have km76_45_7 : m76 45 7 = g0 := by rw [em76, zUp_ne (by omega)]; exact po0_m72
                  have km76_45_8 : m76 45 8 = f73 := by rw [em76, zUp_ne (by omega)]; exact ef73
                  clear em76
                  refine zw_7 zr_8_19 rfl ?_
                  refine zw_43 zr_8_20 rfl ?_
                  refine zw_46i zr_8_21 km76_45_8 rfl rfl rfl ?_
                  refine zw_push zr_8_24 ?_
                  refine zw_16 zr_8_25 (by omega) ?_
                  refine zw_47 (c := 45) zr_8_26 rfl ⟨rfl, by decide, rfl⟩ ?_
                  intro m77 em77
                  have hIm77 : zInv m77 := by rw [em77]; exact hIm76.bd (r := 45) (k := 8) (lo := 0) (hi := 50) rfl (by omega) (by decide) (by decide) (by decide)
                  have hFm77 : zFr W_13 m0 m77 := by rw [em77]; exact hFm76.up rfl
                  have km77_45_7 : m77 45 7 = g0 := by rw [em77, zUp_ne (by omega)]; exact km76_45_7
                  have km77_45_8 : m77 45 8 = (f73 + 1) := by rw [em77]; exact zUp_eq _ _ _ _
                  clear em77
                  refine zw_R zr_8_29 (by decide) zm_8 (v := (9, 0)) rfl ?_
                  rw [← hQ1]
                  show zW E (d) 13 76 [(2, 45), (0, a0), (0, 50), (0, i4), (0, r12)] [] m77 Q
                  refine zw_15 (c := 1) (L' := [(2, 45), (0, a0), (0, 50), (0, (i4 + 1)), (0, r12)]) zr_13_76 rfl (by decide) (by omega) rfl ?_
                  refine zw_42 zr_13_79 ?_
                  exact zw_less (L := [(2, 45), (0, a0), (0, 50), (0, (i4 + 1)), (9, 0)]) ⟨Or.inr rfl, Or.inr rfl, Or.inr rfl, Or.inr rfl, Or.inl rfl, trivial⟩ (ihlp31_6 ((i4 + 1)) m77 hIm77 hFm77  km77_45_7 (by omega) (by omega)  (by omega))
              · intro h78
                refine zw_R zr_13_51 (by decide) zm_13 (v := (9, 0)) rfl ?_
                rw [← hQ]; exact ⟨rfl, hIm11, hFm11, by omega⟩
            by_cases h80 : r12 = 61
            · refine zw_112 (off := 87) (t := 88) zr_7_1 (by rw [h80]; rfl) rfl ?_
              refine zw_push zr_7_88 ?_
              refine zw_R zr_7_89 (by decide) zm_7 (v := (0, 2)) rfl ?_
              rw [← hQ1]
              show zW E (d) 13 47 [(2, 45), (0, a0), (0, 50), (0, i4), (0, r12)] [(0, 2)] m11 Q
              refine zw_3 zr_13_47 rfl ?_
              refine zw_41_1 zr_13_48 ?_ ?_
              · intro h81
                refine zw_7 zr_13_52 rfl ?_
                refine zw_43 zr_13_53 rfl ?_
                refine zw_46i zr_13_54 ef13 rfl rfl rfl ?_
                refine zw_push zr_13_57 ?_
                refine zw_16 zr_13_58 (by omega) ?_
                refine zw_47 (c := 45) zr_13_59 rfl ⟨rfl, by decide, rfl⟩ ?_
                intro m82 em82
                have hIm82 : zInv m82 := by rw [em82]; exact hIm11.bd (r := 45) (k := 6) (lo := 0) (hi := 50) rfl (by omega) (by decide) (by decide) (by decide)
                have hFm82 : zFr W_13 m0 m82 := by rw [em82]; exact hFm11.up rfl
                have km82_45_7 : m82 45 7 = g0 := by rw [em82, zUp_ne (by omega)]; exact km11_45_7
                have km82_45_6 : m82 45 6 = (f13 + 1) := by rw [em82]; exact zUp_eq _ _ _ _
                clear em82
                refine zw_7 zr_13_62 rfl ?_
                refine zw_3 zr_13_63 rfl ?_
                refine zw_push zr_13_64 ?_
                refine zw_16 zr_13_65 (by omega) ?_
                refine zw_C zr_13_66 (Or.inl rfl) zm_13 rfl rfl ⟨Nat.le_of_ble_eq_true rfl, Nat.le_of_ble_eq_true rfl, Nat.le_of_ble_eq_true rfl, rfl, by decide⟩ (by omega) (ih13 m82 ((a0 + 1)) (g0) (by omega) hIm82 km82_45_7  (by omega) ) ?_
                rintro _ m83 ⟨rfl, hIm83, gm83, po0_m83⟩
                have hFm83 : zFr W_13 m0 m83 := hFm82.trans gm83 rfl
                show zW E (d) 13 69 [(2, 45), (0, a0), (0, 50), (0, i4), (0, r12)] [] m83 Q
                refine zw_7 zr_13_69 rfl ?_
                refine zw_4 zr_13_70 rfl ?_
                refine zw_38 zr_13_72 (by omega) ?_
                refine zw_C zr_13_73 (Or.inl rfl) zm_8 rfl rfl ⟨Nat.le_of_ble_eq_true rfl, Nat.le_of_ble_eq_true rfl, Nat.le_of_ble_eq_true rfl, rfl, by decide⟩ (by omega) (P := (fun v m' => zW E (d) 13 76 [(2, 45), (0, a0), (0, 50), (0, i4), (0, r12)] (if v.1 = 9 then [] else v :: []) m' Q)) ?_ (fun _ _ h => h)
                generalize hQ1 : (fun v m' => zW E (d) 13 76 [(2, 45), (0, a0), (0, 50), (0, i4), (0, r12)] (if v.1 = 9 then [] else v :: []) m' Q) = Q1
                show zW E (d - 1) 8 0 [(2, 45), (0, (-r12))] [] m83 Q1
                refine zw_7 zr_8_0 rfl ?_
                obtain ⟨f84, ef84⟩ : ∃ v, m83 45 8 = v := ⟨_, rfl⟩
                have bf84 := ib_45_8 hIm83
                rw [ef84] at bf84
                refine zw_46i zr_8_1 ef84 rfl rfl rfl ?_
                refine zw_push zr_8_4 ?_
                refine zw_41_3 zr_8_6 ?_ ?_
                · intro h85
                  refine zw_R zr_8_29 (by decide) zm_8 (v := (9, 0)) rfl ?_
                  rw [← hQ1]
                  show zW E (d) 13 76 [(2, 45), (0, a0), (0, 50), (0, i4), (0, r12)] [] m83 Q
                  refine zw_15 (c := 1) (L' := [(2, 45), (0, a0), (0, 50), (0, (i4 + 1)), (0, r12)]) zr_13_76 rfl (by decide) (by omega) rfl ?_
                  refine zw_42 zr_13_79 ?_
                  exact zw_less (L := [(2, 45), (0, a0), (0, 50), (0, (i4 + 1)), (9, 0)]) ⟨Or.inr rfl, Or.inr rfl, Or.inr rfl, Or.inr rfl, Or.inl rfl, trivial⟩ (ihlp31_6 ((i4 + 1)) m83 hIm83 hFm83  po0_m83 (by omega) (by omega)  (by omega))
                · intro h86
                  refine zw_7 zr_8_9 rfl ?_
                  refine zw_46r (s := 48) zr_8_10 rfl rfl rfl rfl ?_
                  refine zw_7 zr_8_13 rfl ?_
                  refine zw_46i zr_8_14 ef84 rfl rfl rfl ?_
                  refine zw_3 zr_8_17 rfl ?_
                  refine zw_49 (c := 48) (len := 50) zr_8_18 rfl rfl (by omega) (by omega) ?_
                  intro m87 em87
                  have hIm87 : zInv m87 := by rw [em87]; exact hIm83.any (by omega) rfl (by decide) (by decide)
                  have hFm87 : zFr W_13 m0 m87 := by rw [em87]; exact hFm83.any rfl
                  have km87_45_7 : m87 45 7 = g0 := by rw [em87, zUp_ne (by omega)]; exact po0_m83
                  have km87_45_8 : m87 45 8 = f84 := by rw [em87, zUp_ne (by omega)]; exact ef84
                  clear em87
                  refine zw_7 zr_8_19 rfl ?_
                  refine zw_43 zr_8_20 rfl ?_
                  refine zw_46i zr_8_21 km87_45_8 rfl rfl rfl ?_
                  refine zw_push zr_8_24 ?_
                  refine zw_16 zr_8_25 (by omega) ?_
                  refine zw_47 (c := 45) zr_8_26 rfl ⟨rfl, by decide, rfl⟩ ?_
                  intro m88 em88
                  have hIm88 : zInv m88 := by rw [em88]; exact hIm87.bd (r := 45) (k := 8) (lo := 0) (hi := 50) rfl (by omega) (by decide) (by decide) (by decide)
                  have hFm88 : zFr W_13 m0 m88 := by rw [em88]; exact hFm87.up rfl
                  have km88_45_7 : m88 45 7 = g0 := by rw [em88, zUp_ne (by omega)]; exact km87_45_7
                  have km88_45_8 : m88 45 8 = (f84 + 1) := by rw [em88]; exact zUp_eq _ _ _ _
                  clear em88
                  refine zw_R zr_8_29 (by decide) zm_8 (v := (9, 0)) rfl ?_
                  rw [← hQ1]
                  show zW E (d) 13 76 [(2, 45), (0, a0), (0, 50), (0, i4), (0, r12)] [] m88 Q
                  refine zw_15 (c := 1) (L' := [(2, 45), (0, a0), (0, 50), (0, (i4 + 1)), (0, r12)]) zr_13_76 rfl (by decide) (by omega) rfl ?_
                  refine zw_42 zr_13_79 ?_
                  exact zw_less (L := [(2, 45), (0, a0), (0, 50), (0, (i4 + 1)), (9, 0)]) ⟨Or.inr rfl, Or.inr rfl, Or.inr rfl, Or.inr rfl, Or.inl rfl, trivial⟩ (ihlp31_6 ((i4 + 1)) m88 hIm88 hFm88  km88_45_7 (by omega) (by omega)  (by omega))
              · intro h89
                refine zw_R zr_13_51 (by decide) zm_13 (v := (9, 0)) rfl ?_
                rw [← hQ]; exact ⟨rfl, hIm11, hFm11, by omega⟩
            by_cases h91 : r12 = 62
            · refine zw_112 (off := 87) (t := 88) zr_7_1 (by rw [h91]; rfl) rfl ?_
              refine zw_push zr_7_88 ?_
              refine zw_R zr_7_89 (by decide) zm_7 (v := (0, 2)) rfl ?_
              rw [← hQ1]
              show zW E (d) 13 47 [(2, 45), (0, a0), (0, 50), (0, i4), (0, r12)] [(0, 2)] m11 Q
              refine zw_3 zr_13_47 rfl ?_
              refine zw_41_1 zr_13_48 ?_ ?_
              · intro h92
                refine zw_7 zr_13_52 rfl ?_
                refine zw_43 zr_13_53 rfl ?_
                refine zw_46i zr_13_54 ef13 rfl rfl rfl ?_
                refine zw_push zr_13_57 ?_
                refine zw_16 zr_13_58 (by omega) ?_
                refine zw_47 (c := 45) zr_13_59 rfl ⟨rfl, by decide, rfl⟩ ?_
                intro m93 em93
                have hIm93 : zInv m93 := by rw [em93]; exact hIm11.bd (r := 45) (k := 6) (lo := 0) (hi := 50) rfl (by omega) (by decide) (by decide) (by decide)
                have hFm93 : zFr W_13 m0 m93 := by rw [em93]; exact hFm11.up rfl
                have km93_45_7 : m93 45 7 = g0 := by rw [em93, zUp_ne (by omega)]; exact km11_45_7
                have km93_45_6 : m93 45 6 = (f13 + 1) := by rw [em93]; exact zUp_eq _ _ _ _
                clear em93
                refine zw_7 zr_13_62 rfl ?_
                refine zw_3 zr_13_63 rfl ?_
                refine zw_push zr_13_64 ?_
                refine zw_16 zr_13_65 (by omega) ?_
                refine zw_C zr_13_66 (Or.inl rfl) zm_13 rfl rfl ⟨Nat.le_of_ble_eq_true rfl, Nat.le_of_ble_eq_true rfl, Nat.le_of_ble_eq_true rfl, rfl, by decide⟩ (by omega) (ih13 m93 ((a0 + 1)) (g0) (by omega) hIm93 km93_45_7  (by omega) ) ?_
                rintro _ m94 ⟨rfl, hIm94, gm94, po0_m94⟩
                have hFm94 : zFr W_13 m0 m94 := hFm93.trans gm94 rfl
                show zW E (d) 13 69 [(2, 45), (0, a0), (0, 50), (0, i4), (0, r12)] [] m94 Q
                refine zw_7 zr_13_69 rfl ?_
                refine zw_4 zr_13_70 rfl ?_
                refine zw_38 zr_13_72 (by omega) ?_
                refine zw_C zr_13_73 (Or.inl rfl) zm_8 rfl rfl ⟨Nat.le_of_ble_eq_true rfl, Nat.le_of_ble_eq_true rfl, Nat.le_of_ble_eq_true rfl, rfl, by decide⟩ (by omega) (P := (fun v m' => zW E (d) 13 76 [(2, 45), (0, a0), (0, 50), (0, i4), (0, r12)] (if v.1 = 9 then [] else v :: []) m' Q)) ?_ (fun _ _ h => h)
                generalize hQ1 : (fun v m' => zW E (d) 13 76 [(2, 45), (0, a0), (0, 50), (0, i4), (0, r12)] (if v.1 = 9 then [] else v :: []) m' Q) = Q1
                show zW E (d - 1) 8 0 [(2, 45), (0, (-r12))] [] m94 Q1
                refine zw_7 zr_8_0 rfl ?_
                obtain ⟨f95, ef95⟩ : ∃ v, m94 45 8 = v := ⟨_, rfl⟩
                have bf95 := ib_45_8 hIm94
                rw [ef95] at bf95
                refine zw_46i zr_8_1 ef95 rfl rfl rfl ?_
                refine zw_push zr_8_4 ?_
                refine zw_41_3 zr_8_6 ?_ ?_
                · intro h96
                  refine zw_R zr_8_29 (by decide) zm_8 (v := (9, 0)) rfl ?_
                  rw [← hQ1]
                  show zW E (d) 13 76 [(2, 45), (0, a0), (0, 50), (0, i4), (0, r12)] [] m94 Q
                  refine zw_15 (c := 1) (L' := [(2, 45), (0, a0), (0, 50), (0, (i4 + 1)), (0, r12)]) zr_13_76 rfl (by decide) (by omega) rfl ?_
                  refine zw_42 zr_13_79 ?_
                  exact zw_less (L := [(2, 45), (0, a0), (0, 50), (0, (i4 + 1)), (9, 0)]) ⟨Or.inr rfl, Or.inr rfl, Or.inr rfl, Or.inr rfl, Or.inl rfl, trivial⟩ (ihlp31_6 ((i4 + 1)) m94 hIm94 hFm94  po0_m94 (by omega) (by omega)  (by omega))
                · intro h97
                  refine zw_7 zr_8_9 rfl ?_
                  refine zw_46r (s := 48) zr_8_10 rfl rfl rfl rfl ?_
                  refine zw_7 zr_8_13 rfl ?_
                  refine zw_46i zr_8_14 ef95 rfl rfl rfl ?_
                  refine zw_3 zr_8_17 rfl ?_
                  refine zw_49 (c := 48) (len := 50) zr_8_18 rfl rfl (by omega) (by omega) ?_
                  intro m98 em98
                  have hIm98 : zInv m98 := by rw [em98]; exact hIm94.any (by omega) rfl (by decide) (by decide)
                  have hFm98 : zFr W_13 m0 m98 := by rw [em98]; exact hFm94.any rfl
                  have km98_45_7 : m98 45 7 = g0 := by rw [em98, zUp_ne (by omega)]; exact po0_m94
                  have km98_45_8 : m98 45 8 = f95 := by rw [em98, zUp_ne (by omega)]; exact ef95
                  clear em98
                  refine zw_7 zr_8_19 rfl ?_
                  refine zw_43 zr_8_20 rfl ?_
                  refine zw_46i zr_8_21 km98_45_8 rfl rfl rfl ?_
                  refine zw_push zr_8_24 ?_
                  refine zw_16 zr_8_25 (by omega) ?_
                  refine zw_47 (c := 45) zr_8_26 rfl ⟨rfl, by decide, rfl⟩ ?_
                  intro m99 em99
                  have hIm99 : zInv m99 := by rw [em99]; exact hIm98.bd (r := 45) (k := 8) (lo := 0) (hi := 50) rfl (by omega) (by decide) (by decide) (by decide)
                  have hFm99 : zFr W_13 m0 m99 := by rw [em99]; exact hFm98.up rfl
                  have km99_45_7 : m99 45 7 = g0 := by rw [em99, zUp_ne (by omega)]; exact km98_45_7
                  have km99_45_8 : m99 45 8 = (f95 + 1) := by rw [em99]; exact zUp_eq _ _ _ _
                  clear em99
                  refine zw_R zr_8_29 (by decide) zm_8 (v := (9, 0)) rfl ?_
                  rw [← hQ1]
                  show zW E (d) 13 76 [(2, 45), (0, a0), (0, 50), (0, i4), (0, r12)] [] m99 Q
                  refine zw_15 (c := 1) (L' := [(2, 45), (0, a0), (0, 50), (0, (i4 + 1)), (0, r12)]) zr_13_76 rfl (by decide) (by omega) rfl ?_
                  refine zw_42 zr_13_79 ?_
                  exact zw_less (L := [(2, 45), (0, a0), (0, 50), (0, (i4 + 1)), (9, 0)]) ⟨Or.inr rfl, Or.inr rfl, Or.inr rfl, Or.inr rfl, Or.inl rfl, trivial⟩ (ihlp31_6 ((i4 + 1)) m99 hIm99 hFm99  km99_45_7 (by omega) (by omega)  (by omega))
              · intro h100
                refine zw_R zr_13_51 (by decide) zm_13 (v := (9, 0)) rfl ?_
                rw [← hQ]; exact ⟨rfl, hIm11, hFm11, by omega⟩
            by_cases h102 : r12 = 124
            · refine zw_112 (off := 83) (t := 84) zr_7_1 (by rw [h102]; rfl) rfl ?_
              refine zw_push zr_7_84 ?_
              refine zw_R zr_7_85 (by decide) zm_7 (v := (0, 0)) rfl ?_
              rw [← hQ1]
              show zW E (d) 13 47 [(2, 45), (0, a0), (0, 50), (0, i4), (0, r12)] [(0, 0)] m11 Q
              refine zw_3 zr_13_47 rfl ?_
              refine zw_41_1 zr_13_48 ?_ ?_
              · intro h103
                refine zw_7 zr_13_52 rfl ?_
                refine zw_43 zr_13_53 rfl ?_
                refine zw_46i zr_13_54 ef13 rfl rfl rfl ?_
                refine zw_push zr_13_57 ?_
                refine zw_16 zr_13_58 (by omega) ?_
                refine zw_47 (c := 45) zr_13_59 rfl ⟨rfl, by decide, rfl⟩ ?_
                intro m104 em104
                have hIm104 : zInv m104 := by rw [em104]; exact hIm11.bd (r := 45) (k := 6) (lo := 0) (hi := 50) rfl (by omega) (by decide) (by decide) (by decide)
                have hFm104 : zFr W_13 m0 m104 := by rw [em104]; exact hFm11.up rfl
                have km104_45_7 : m104 45 7 = g0 := by rw [em104, zUp_ne (by omega)]; exact km11_45_7
                have km104_45_6 : m104 45 6 = (f13 + 1) := by rw [em104]; exact zUp_eq _ _ _ _
                clear em104
                refine zw_7 zr_13_62 rfl ?_
                refine zw_3 zr_13_63 rfl ?_
                refine zw_push zr_13_64 ?_
                refine zw_16 zr_13_65 (by omega) ?_
                refine zw_C zr_13_66 (Or.inl rfl) zm_13 rfl rfl ⟨Nat.le_of_ble_eq_true rfl, Nat.le_of_ble_eq_true rfl, Nat.le_of_ble_eq_true rfl, rfl, by decide⟩ (by omega) (ih13 m104 ((a0 + 1)) (g0) (by omega) hIm104 km104_45_7  (by omega) ) ?_
                rintro _ m105 ⟨rfl, hIm105, gm105, po0_m105⟩
                have hFm105 : zFr W_13 m0 m105 := hFm104.trans gm105 rfl
                show zW E (d) 13 69 [(2, 45), (0, a0), (0, 50), (0, i4), (0, r12)] [] m105 Q
                refine zw_7 zr_13_69 rfl ?_
                refine zw_4 zr_13_70 rfl ?_
                refine zw_38 zr_13_72 (by omega) ?_
                refine zw_C zr_13_73 (Or.inl rfl) zm_8 rfl rfl ⟨Nat.le_of_ble_eq_true rfl, Nat.le_of_ble_eq_true rfl, Nat.le_of_ble_eq_true rfl, rfl, by decide⟩ (by omega) (P := (fun v m' => zW E (d) 13 76 [(2, 45), (0, a0), (0, 50), (0, i4), (0, r12)] (if v.1 = 9 then [] else v :: []) m' Q)) ?_ (fun _ _ h => h)
                generalize hQ1 : (fun v m' => zW E (d) 13 76 [(2, 45), (0, a0), (0, 50), (0, i4), (0, r12)] (if v.1 = 9 then [] else v :: []) m' Q) = Q1
                show zW E (d - 1) 8 0 [(2, 45), (0, (-r12))] [] m105 Q1
                refine zw_7 zr_8_0 rfl ?_
                obtain ⟨f106, ef106⟩ : ∃ v, m105 45 8 = v := ⟨_, rfl⟩
                have bf106 := ib_45_8 hIm105
                rw [ef106] at bf106
                refine zw_46i zr_8_1 ef106 rfl rfl rfl ?_
                refine zw_push zr_8_4 ?_
                refine zw_41_3 zr_8_6 ?_ ?_
                · intro h107
                  refine zw_R zr_8_29 (by decide) zm_8 (v := (9, 0)) rfl ?_
                  rw [← hQ1]
                  show zW E (d) 13 76 [(2, 45), (0, a0), (0, 50), (0, i4), (0, r12)] [] m105 Q
                  refine zw_15 (c := 1) (L' := [(2, 45), (0, a0), (0, 50), (0, (i4 + 1)), (0, r12)]) zr_13_76 rfl (by decide) (by omega) rfl ?_
                  refine zw_42 zr_13_79 ?_
                  exact zw_less (L := [(2, 45), (0, a0), (0, 50), (0, (i4 + 1)), (9, 0)]) ⟨Or.inr rfl, Or.inr rfl, Or.inr rfl, Or.inr rfl, Or.inl rfl, trivial⟩ (ihlp31_6 ((i4 + 1)) m105 hIm105 hFm105  po0_m105 (by omega) (by omega)  (by omega))
                · intro h108
                  refine zw_7 zr_8_9 rfl ?_
                  refine zw_46r (s := 48) zr_8_10 rfl rfl rfl rfl ?_
                  refine zw_7 zr_8_13 rfl ?_
                  refine zw_46i zr_8_14 ef106 rfl rfl rfl ?_
                  refine zw_3 zr_8_17 rfl ?_
                  refine zw_49 (c := 48) (len := 50) zr_8_18 rfl rfl (by omega) (by omega) ?_
                  intro m109 em109
                  have hIm109 : zInv m109 := by rw [em109]; exact hIm105.any (by omega) rfl (by decide) (by decide)
                  have hFm109 : zFr W_13 m0 m109 := by rw [em109]; exact hFm105.any rfl
                  have km109_45_7 : m109 45 7 = g0 := by rw [em109, zUp_ne (by omega)]; exact po0_m105
                  have km109_45_8 : m109 45 8 = f106 := by rw [em109, zUp_ne (by omega)]; exact ef106
                  clear em109
                  refine zw_7 zr_8_19 rfl ?_
                  refine zw_43 zr_8_20 rfl ?_
                  refine zw_46i zr_8_21 km109_45_8 rfl rfl rfl ?_
                  refine zw_push zr_8_24 ?_
                  refine zw_16 zr_8_25 (by omega) ?_
                  refine zw_47 (c := 45) zr_8_26 rfl ⟨rfl, by decide, rfl⟩ ?_
                  intro m110 em110
                  have hIm110 : zInv m110 := by rw [em110]; exact hIm109.bd (r := 45) (k := 8) (lo := 0) (hi := 50) rfl (by omega) (by decide) (by decide) (by decide)
                  have hFm110 : zFr W_13 m0 m110 := by rw [em110]; exact hFm109.up rfl
                  have km110_45_7 : m110 45 7 = g0 := by rw [em110, zUp_ne (by omega)]; exact km109_45_7
                  have km110_45_8 : m110 45 8 = (f106 + 1) := by rw [em110]; exact zUp_eq _ _ _ _
                  clear em110
                  refine zw_R zr_8_29 (by decide) zm_8 (v := (9, 0)) rfl ?_
                  rw [← hQ1]
                  show zW E (d) 13 76 [(2, 45), (0, a0), (0, 50), (0, i4), (0, r12)] [] m110 Q
                  refine zw_15 (c := 1) (L' := [(2, 45), (0, a0), (0, 50), (0, (i4 + 1)), (0, r12)]) zr_13_76 rfl (by decide) (by omega) rfl ?_
                  refine zw_42 zr_13_79 ?_
                  exact zw_less (L := [(2, 45), (0, a0), (0, 50), (0, (i4 + 1)), (9, 0)]) ⟨Or.inr rfl, Or.inr rfl, Or.inr rfl, Or.inr rfl, Or.inl rfl, trivial⟩ (ihlp31_6 ((i4 + 1)) m110 hIm110 hFm110  km110_45_7 (by omega) (by omega)  (by omega))
              · intro h111
                refine zw_R zr_13_51 (by decide) zm_13 (v := (9, 0)) rfl ?_
                rw [← hQ]; exact ⟨rfl, hIm11, hFm11, by omega⟩
            refine zw_112 (off := 93) (t := 94) zr_7_1 (zlsw_df (by simp; omega)) rfl ?_
            refine zw_push zr_7_94 ?_
            refine zw_R zr_7_95 (by decide) zm_7 (v := (0, (-1))) rfl ?_
            rw [← hQ1]
            show zW E (d) 13 47 [(2, 45), (0, a0), (0, 50), (0, i4), (0, r12)] [(0, (-1))] m11 Q
            refine zw_3 zr_13_47 rfl ?_
            refine zw_41_1 zr_13_48 ?_ ?_
            · intro h113; omega
            · intro h114
              refine zw_R zr_13_51 (by decide) zm_13 (v := (9, 0)) rfl ?_
              rw [← hQ]; exact ⟨rfl, hIm11, hFm11, by omega⟩
      exact lp31_6 _ (0) m2 hIm2 hFm2  po0_m2 (by omega) (by omega)  (Nat.lt_succ_self _)
    · intro h116
      refine zw_push zr_13_22 ?_
      refine zw_42 zr_13_23 ?_
      refine zw_9 (L' := [(2, 45), (0, a0), (0, 1), (9, 0), (9, 0)]) zr_13_28 (Nat.le_of_ble_eq_true rfl) rfl ?_
      refine zw_push zr_13_29 ?_
      refine zw_9 (L' := [(2, 45), (0, a0), (0, 1), (0, 0), (9, 0)]) zr_13_30 (Nat.le_of_ble_eq_true rfl) rfl ?_
      have lp31_119 : ∀ (nlp31_119 : Nat) (i117 : Int) (m118 : zM), zInv m118 → zFr W_13 m0 m118 → m118 45 7 = g0 → 0 ≤ i117 → i117 ≤ 50 → (50 - i117).toNat < nlp31_119 → zW E (d) 13 31 [(2, 45), (0, a0), (0, 1), (0, i117), (9, 0)] [] m118 Q := by
        intro nlp31_119
        induction nlp31_119 with
        | zero =>
          intros
          exact absurd (by assumption : _ < 0) (Nat.not_lt_zero _)
        | succ nlp31_119 ihlp31_119 =>
          intro i117 m118 hIm118 hFm118 km118_45_7 li117 ui117 hmlp31_119
          refine zw_3 zr_13_31 rfl ?_
          refine zw_3 zr_13_32 rfl ?_
          refine zw_41_3 zr_13_33 ?_ ?_
          · intro h121
            refine zw_R zr_13_82 (by decide) zm_13 (v := (9, 0)) rfl ?_
            rw [← hQ]; exact ⟨rfl, hIm118, hFm118, by omega⟩
          · intro h123
            refine zw_7 zr_13_36 rfl ?_
            refine zw_C zr_13_37 (Or.inl rfl) zm_6 rfl rfl ⟨Nat.le_of_ble_eq_true rfl, Nat.le_of_ble_eq_true rfl, Nat.le_of_ble_eq_true rfl, rfl, by decide⟩ (by omega) (th_6 (d := d - 1) (by omega) hIm118        ) ?_
            rintro _ m124 ⟨r125, rfl, hr125a, hr125b, hIm124, gm124, po0_r125⟩
            have hFm124 : zFr W_13 m0 m124 := hFm118.trans gm124 rfl
            have km124_45_7 : m124 45 7 = g0 := (gm124 45 7 rfl).trans km118_45_7
            obtain ⟨f126, ef126⟩ : ∃ v, m124 45 6 = v := ⟨_, rfl⟩
            have bf126 := ib_45_6 hIm124
            rw [ef126] at bf126
            show zW E (d) 13 40 [(2, 45), (0, a0), (0, 1), (0, i117), (9, 0)] [(0, r125)] m124 Q
            refine zw_10 (L' := [(2, 45), (0, a0), (0, 1), (0, i117), (0, r125)]) zr_13_40 (Nat.le_of_ble_eq_true rfl) rfl ?_
            refine zw_4 zr_13_42 rfl ?_
            refine zw_C zr_13_44 (Or.inr rfl) zm_7 rfl rfl ⟨Nat.le_of_ble_eq_true rfl, Nat.le_of_ble_eq_true rfl, Nat.le_of_ble_eq_true rfl, rfl, by decide⟩ (by omega) (P := (fun v m' => zW E (d) 13 47 [(2, 45), (0, a0), (0, 1), (0, i117), (0, r125)] (if v.1 = 9 then [] else v :: []) m' Q)) ?_ (fun _ _ h => h)
            generalize hQ1 : (fun v m' => zW E (d) 13 47 [(2, 45), (0, a0), (0, 1), (0, i117), (0, r125)] (if v.1 = 9 then [] else v :: []) m' Q) = Q1
            show zW E (d - 1) 7 0 [(0, r125)] [] m124 Q1
            refine zw_3 zr_7_0 rfl ?_
            by_cases h127 : r125 = 38
            · refine zw_112 (off := 85) (t := 86) zr_7_1 (by rw [h127]; rfl) rfl ?_
              refine zw_push zr_7_86 ?_
              refine zw_R zr_7_87 (by decide) zm_7 (v := (0, 1)) rfl ?_
              rw [← hQ1]
              show zW E (d) 13 47 [(2, 45), (0, a0), (0, 1), (0, i117), (0, r125)] [(0, 1)] m124 Q
              refine zw_3 zr_13_47 rfl ?_
              refine zw_41_1 zr_13_48 ?_ ?_
              · intro h128; omega
              · intro h129
                refine zw_R zr_13_51 (by decide) zm_13 (v := (9, 0)) rfl ?_
                rw [← hQ]; exact ⟨rfl, hIm124, hFm124, by omega⟩
            by_cases h131 : r125 = 42
            · refine zw_112 (off := 91) (t := 92) zr_7_1 (by rw [h131]; rfl) rfl ?_
              refine zw_push zr_7_92 ?_
              refine zw_R zr_7_93 (by decide) zm_7 (v := (0, 4)) rfl ?_
              rw [← hQ1]
              show zW E (d) 13 47 [(2, 45), (0, a0), (0, 1), (0, i117), (0, r125)] [(0, 4)] m124 Q
              refine zw_3 zr_13_47 rfl ?_
              refine zw_41_1 zr_13_48 ?_ ?_
              · intro h132; omega
              · intro h133
                refine zw_R zr_13_51 (by decide) zm_13 (v := (9, 0)) rfl ?_
                rw [← hQ]; exact ⟨rfl, hIm124, hFm124, by omega⟩
            by_cases h135 : r125 = 43
            · refine zw_112 (off := 89) (t := 90) zr_7_1 (by rw [h135]; rfl) rfl ?_
              refine zw_push zr_7_90 ?_
              refine zw_R zr_7_91 (by decide) zm_7 (v := (0, 3)) rfl ?_
              rw [← hQ1]
              show zW E (d) 13 47 [(2, 45), (0, a0), (0, 1), (0, i117), (0, r125)] [(0, 3)] m124 Q
              refine zw_3 zr_13_47 rfl ?_
              refine zw_41_1 zr_13_48 ?_ ?_
              · intro h136; omega
              · intro h137
                refine zw_R zr_13_51 (by decide) zm_13 (v := (9, 0)) rfl ?_
                rw [← hQ]; exact ⟨rfl, hIm124, hFm124, by omega⟩
            by_cases h139 : r125 = 45
            · refine zw_112 (off := 89) (t := 90) zr_7_1 (by rw [h139]; rfl) rfl ?_
              refine zw_push zr_7_90 ?_
              refine zw_R zr_7_91 (by decide) zm_7 (v := (0, 3)) rfl ?_
              rw [← hQ1]
              show zW E (d) 13 47 [(2, 45), (0, a0), (0, 1), (0, i117), (0, r125)] [(0, 3)] m124 Q
              refine zw_3 zr_13_47 rfl ?_
              refine zw_41_1 zr_13_48 ?_ ?_
              · intro h140; omega
              · intro h141
                refine zw_R zr_13_51 (by decide) zm_13 (v := (9, 0)) rfl ?_
                rw [← hQ]; exact ⟨rfl, hIm124, hFm124, by omega⟩
            by_cases h143 : r125 = 47
            · refine zw_112 (off := 91) (t := 92) zr_7_1 (by rw [h143]; rfl) rfl ?_
              refine zw_push zr_7_92 ?_
              refine zw_R zr_7_93 (by decide) zm_7 (v := (0, 4)) rfl ?_
              rw [← hQ1]
              show zW E (d) 13 47 [(2, 45), (0, a0), (0, 1), (0, i117), (0, r125)] [(0, 4)] m124 Q
              refine zw_3 zr_13_47 rfl ?_
              refine zw_41_1 zr_13_48 ?_ ?_
              · intro h144; omega
              · intro h145
                refine zw_R zr_13_51 (by decide) zm_13 (v := (9, 0)) rfl ?_
                rw [← hQ]; exact ⟨rfl, hIm124, hFm124, by omega⟩
            by_cases h147 : r125 = 60
            · refine zw_112 (off := 87) (t := 88) zr_7_1 (by rw [h147]; rfl) rfl ?_
              refine zw_push zr_7_88 ?_
              refine zw_R zr_7_89 (by decide) zm_7 (v := (0, 2)) rfl ?_
              rw [← hQ1]
              show zW E (d) 13 47 [(2, 45), (0, a0), (0, 1), (0, i117), (0, r125)] [(0, 2)] m124 Q
              refine zw_3 zr_13_47 rfl ?_
              refine zw_41_1 zr_13_48 ?_ ?_
              · intro h148
                refine zw_7 zr_13_52 rfl ?_
                refine zw_43 zr_13_53 rfl ?_
                refine zw_46i zr_13_54 ef126 rfl rfl rfl ?_
                refine zw_push zr_13_57 ?_
                refine zw_16 zr_13_58 (by omega) ?_
                refine zw_47 (c := 45) zr_13_59 rfl ⟨rfl, by decide, rfl⟩ ?_
                intro m149 em149
                have hIm149 : zInv m149 := by rw [em149]; exact hIm124.bd (r := 45) (k := 6) (lo := 0) (hi := 50) rfl (by omega) (by decide) (by decide) (by decide)
                have hFm149 : zFr W_13 m0 m149 := by rw [em149]; exact hFm124.up rfl
                have km149_45_7 : m149 45 7 = g0 := by rw [em149, zUp_ne (by omega)]; exact km124_45_7
                have km149_45_6 : m149 45 6 = (f126 + 1) := by rw [em149]; exact zUp_eq _ _ _ _
                clear em149
                refine zw_7 zr_13_62 rfl ?_
                refine zw_3 zr_13_63 rfl ?_
                refine zw_push zr_13_64 ?_
                refine zw_16 zr_13_65 (by omega) ?_
                refine zw_C zr_13_66 (Or.inl rfl) zm_13 rfl rfl ⟨Nat.le_of_ble_eq_true rfl, Nat.le_of_ble_eq_true rfl, Nat.le_of_ble_eq_true rfl, rfl, by decide⟩ (by omega) (ih13 m149 ((a0 + 1)) (g0) (by omega) hIm149 km149_45_7  (by omega) ) ?_
                rintro _ m150 ⟨rfl, hIm150, gm150, po0_m150⟩
                have hFm150 : zFr W_13 m0 m150 := hFm149.trans gm150 rfl
                show zW E (d) 13 69 [(2, 45), (0, a0), (0, 1), (0, i117), (0, r125)] [] m150 Q
                refine zw_7 zr_13_69 rfl ?_
                refine zw_4 zr_13_70 rfl ?_
                refine zw_38 zr_13_72 (by omega) ?_
                refine zw_C zr_13_73 (Or.inl rfl) zm_8 rfl rfl ⟨Nat.le_of_ble_eq_true rfl, Nat.le_of_ble_eq_true rfl, Nat.le_of_ble_eq_true rfl, rfl, by decide⟩ (by omega) (P := (fun v m' => zW E (d) 13 76 [(2, 45), (0, a0), (0, 1), (0, i117), (0, r125)] (if v.1 = 9 then [] else v :: []) m' Q)) ?_ (fun _ _ h => h)
                generalize hQ1 : (fun v m' => zW E (d) 13 76 [(2, 45), (0, a0), (0, 1), (0, i117), (0, r125)] (if v.1 = 9 then [] else v :: []) m' Q) = Q1
                show zW E (d - 1) 8 0 [(2, 45), (0, (-r125))] [] m150 Q1
                refine zw_7 zr_8_0 rfl ?_
                obtain ⟨f151, ef151⟩ : ∃ v, m150 45 8 = v := ⟨_, rfl⟩
                have bf151 := ib_45_8 hIm150
                rw [ef151] at bf151
                refine zw_46i zr_8_1 ef151 rfl rfl rfl ?_
                refine zw_push zr_8_4 ?_
                refine zw_41_3 zr_8_6 ?_ ?_
                · intro h152
                  refine zw_R zr_8_29 (by decide) zm_8 (v := (9, 0)) rfl ?_
                  rw [← hQ1]
                  show zW E (d) 13 76 [(2, 45), (0, a0), (0, 1), (0, i117), (0, r125)] [] m150 Q
                  refine zw_15 (c := 1) (L' := [(2, 45), (0, a0), (0, 1), (0, (i117 + 1)), (0, r125)]) zr_13_76 rfl (by decide) (by omega) rfl ?_
                  refine zw_42 zr_13_79 ?_
                  exact zw_less (L := [(2, 45), (0, a0), (0, 1), (0, (i117 + 1)), (9, 0)]) ⟨Or.inr rfl, Or.inr rfl, Or.inr rfl, Or.inr rfl, Or.inl rfl, trivial⟩ (ihlp31_119 ((i117 + 1)) m150 hIm150 hFm150  po0_m150 (by omega) (by omega)  (by omega))
                · intro h153
                  refine zw_7 zr_8_9 rfl ?_
                  refine zw_46r (s := 48) zr_8_10 rfl rfl rfl rfl ?_
                  refine zw_7 zr_8_13 rfl ?_
                  refine zw_46i zr_8_14 ef151 rfl rfl rfl ?_
                  refine zw_3 zr_8_17 rfl ?_
                  refine zw_49 (c := 48) (len := 50) zr_8_18 rfl rfl (by omega) (by omega) ?_
                  intro m154 em154
                  have hIm154 : zInv m154 := by rw [em154]; exact hIm150.any (by omega) rfl (by decide) (by decide)
                  have hFm154 : zFr W_13 m0 m154 := by rw [em154]; exact hFm150.any rfl
                  have km154_45_7 : m154 45 7 = g0 := by rw [em154, zUp_ne (by omega)]; exact po0_m150
                  have km154_45_8 : m154 45 8 = f151 := by rw [em154, zUp_ne (by omega)]; exact ef151
                  clear em154
                  refine zw_7 zr_8_19 rfl ?_
                  refine zw_43 zr_8_20 rfl ?_
                  refine zw_46i zr_8_21 km154_45_8 rfl rfl rfl ?_
                  refine zw_push zr_8_24 ?_
                  refine zw_16 zr_8_25 (by omega) ?_
                  refine zw_47 (c := 45) zr_8_26 rfl ⟨rfl, by decide, rfl⟩ ?_
                  intro m155 em155
                  have hIm155 : zInv m155 := by rw [em155]; exact hIm154.bd (r := 45) (k := 8) (lo := 0) (hi := 50) rfl (by omega) (by decide) (by decide) (by decide)
                  have hFm155 : zFr W_13 m0 m155 := by rw [em155]; exact hFm154.up rfl
                  have km155_45_7 : m155 45 7 = g0 := by rw [em155, zUp_ne (by omega)]; exact km154_45_7
                  have km155_45_8 : m155 45 8 = (f151 + 1) := by rw [em155]; exact zUp_eq _ _ _ _
                  clear em155
                  refine zw_R zr_8_29 (by decide) zm_8 (v := (9, 0)) rfl ?_
                  rw [← hQ1]
                  show zW E (d) 13 76 [(2, 45), (0, a0), (0, 1), (0, i117), (0, r125)] [] m155 Q
                  refine zw_15 (c := 1) (L' := [(2, 45), (0, a0), (0, 1), (0, (i117 + 1)), (0, r125)]) zr_13_76 rfl (by decide) (by omega) rfl ?_
                  refine zw_42 zr_13_79 ?_
                  exact zw_less (L := [(2, 45), (0, a0), (0, 1), (0, (i117 + 1)), (9, 0)]) ⟨Or.inr rfl, Or.inr rfl, Or.inr rfl, Or.inr rfl, Or.inl rfl, trivial⟩ (ihlp31_119 ((i117 + 1)) m155 hIm155 hFm155  km155_45_7 (by omega) (by omega)  (by omega))
              · intro h156; omega
            by_cases h157 : r125 = 61
            · refine zw_112 (off := 87) (t := 88) zr_7_1 (by rw [h157]; rfl) rfl ?_
              refine zw_push zr_7_88 ?_
              refine zw_R zr_7_89 (by decide) zm_7 (v := (0, 2)) rfl ?_
              rw [← hQ1]
              show zW E (d) 13 47 [(2, 45), (0, a0), (0, 1), (0, i117), (0, r125)] [(0, 2)] m124 Q
              refine zw_3 zr_13_47 rfl ?_
              refine zw_41_1 zr_13_48 ?_ ?_
              · intro h158
                refine zw_7 zr_13_52 rfl ?_
                refine zw_43 zr_13_53 rfl ?_
                refine zw_46i zr_13_54 ef126 rfl rfl rfl ?_
                refine zw_push zr_13_57 ?_
                refine zw_16 zr_13_58 (by omega) ?_
                refine zw_47 (c := 45) zr_13_59 rfl ⟨rfl, by decide, rfl⟩ ?_
                intro m159 em159
                have hIm159 : zInv m159 := by rw [em159]; exact hIm124.bd (r := 45) (k := 6) (lo := 0) (hi := 50) rfl (by omega) (by decide) (by decide) (by decide)
                have hFm159 : zFr W_13 m0 m159 := by rw [em159]; exact hFm124.up rfl
                have km159_45_7 : m159 45 7 = g0 := by rw [em159, zUp_ne (by omega)]; exact km124_45_7
                have km159_45_6 : m159 45 6 = (f126 + 1) := by rw [em159]; exact zUp_eq _ _ _ _
                clear em159
                refine zw_7 zr_13_62 rfl ?_
                refine zw_3 zr_13_63 rfl ?_
                refine zw_push zr_13_64 ?_
                refine zw_16 zr_13_65 (by omega) ?_
                refine zw_C zr_13_66 (Or.inl rfl) zm_13 rfl rfl ⟨Nat.le_of_ble_eq_true rfl, Nat.le_of_ble_eq_true rfl, Nat.le_of_ble_eq_true rfl, rfl, by decide⟩ (by omega) (ih13 m159 ((a0 + 1)) (g0) (by omega) hIm159 km159_45_7  (by omega) ) ?_
                rintro _ m160 ⟨rfl, hIm160, gm160, po0_m160⟩
                have hFm160 : zFr W_13 m0 m160 := hFm159.trans gm160 rfl
                show zW E (d) 13 69 [(2, 45), (0, a0), (0, 1), (0, i117), (0, r125)] [] m160 Q
                refine zw_7 zr_13_69 rfl ?_
                refine zw_4 zr_13_70 rfl ?_
                refine zw_38 zr_13_72 (by omega) ?_
                refine zw_C zr_13_73 (Or.inl rfl) zm_8 rfl rfl ⟨Nat.le_of_ble_eq_true rfl, Nat.le_of_ble_eq_true rfl, Nat.le_of_ble_eq_true rfl, rfl, by decide⟩ (by omega) (P := (fun v m' => zW E (d) 13 76 [(2, 45), (0, a0), (0, 1), (0, i117), (0, r125)] (if v.1 = 9 then [] else v :: []) m' Q)) ?_ (fun _ _ h => h)
                generalize hQ1 : (fun v m' => zW E (d) 13 76 [(2, 45), (0, a0), (0, 1), (0, i117), (0, r125)] (if v.1 = 9 then [] else v :: []) m' Q) = Q1
                show zW E (d - 1) 8 0 [(2, 45), (0, (-r125))] [] m160 Q1
                refine zw_7 zr_8_0 rfl ?_
                obtain ⟨f161, ef161⟩ : ∃ v, m160 45 8 = v := ⟨_, rfl⟩
                have bf161 := ib_45_8 hIm160
                rw [ef161] at bf161
                refine zw_46i zr_8_1 ef161 rfl rfl rfl ?_
                refine zw_push zr_8_4 ?_
                refine zw_41_3 zr_8_6 ?_ ?_
                · intro h162
                  refine zw_R zr_8_29 (by decide) zm_8 (v := (9, 0)) rfl ?_
                  rw [← hQ1]
                  show zW E (d) 13 76 [(2, 45), (0, a0), (0, 1), (0, i117), (0, r125)] [] m160 Q
                  refine zw_15 (c := 1) (L' := [(2, 45), (0, a0), (0, 1), (0, (i117 + 1)), (0, r125)]) zr_13_76 rfl (by decide) (by omega) rfl ?_
                  refine zw_42 zr_13_79 ?_
                  exact zw_less (L := [(2, 45), (0, a0), (0, 1), (0, (i117 + 1)), (9, 0)]) ⟨Or.inr rfl, Or.inr rfl, Or.inr rfl, Or.inr rfl, Or.inl rfl, trivial⟩ (ihlp31_119 ((i117 + 1)) m160 hIm160 hFm160  po0_m160 (by omega) (by omega)  (by omega))
                · intro h163
                  refine zw_7 zr_8_9 rfl ?_
                  refine zw_46r (s := 48) zr_8_10 rfl rfl rfl rfl ?_
                  refine zw_7 zr_8_13 rfl ?_
                  refine zw_46i zr_8_14 ef161 rfl rfl rfl ?_
                  refine zw_3 zr_8_17 rfl ?_
                  refine zw_49 (c := 48) (len := 50) zr_8_18 rfl rfl (by omega) (by omega) ?_
                  intro m164 em164
                  have hIm164 : zInv m164 := by rw [em164]; exact hIm160.any (by omega) rfl (by decide) (by decide)
                  have hFm164 : zFr W_13 m0 m164 := by rw [em164]; exact hFm160.any rfl
                  have km164_45_7 : m164 45 7 = g0 := by rw [em164, zUp_ne (by omega)]; exact po0_m160
                  have km164_45_8 : m164 45 8 = f161 := by rw [em164, zUp_ne (by omega)]; exact ef161
                  clear em164
                  refine zw_7 zr_8_19 rfl ?_
                  refine zw_43 zr_8_20 rfl ?_
                  refine zw_46i zr_8_21 km164_45_8 rfl rfl rfl ?_
                  refine zw_push zr_8_24 ?_
                  refine zw_16 zr_8_25 (by omega) ?_
                  refine zw_47 (c := 45) zr_8_26 rfl ⟨rfl, by decide, rfl⟩ ?_
                  intro m165 em165
                  have hIm165 : zInv m165 := by rw [em165]; exact hIm164.bd (r := 45) (k := 8) (lo := 0) (hi := 50) rfl (by omega) (by decide) (by decide) (by decide)
                  have hFm165 : zFr W_13 m0 m165 := by rw [em165]; exact hFm164.up rfl
                  have km165_45_7 : m165 45 7 = g0 := by rw [em165, zUp_ne (by omega)]; exact km164_45_7
                  have km165_45_8 : m165 45 8 = (f161 + 1) := by rw [em165]; exact zUp_eq _ _ _ _
                  clear em165
                  refine zw_R zr_8_29 (by decide) zm_8 (v := (9, 0)) rfl ?_
                  rw [← hQ1]
                  show zW E (d) 13 76 [(2, 45), (0, a0), (0, 1), (0, i117), (0, r125)] [] m165 Q
                  refine zw_15 (c := 1) (L' := [(2, 45), (0, a0), (0, 1), (0, (i117 + 1)), (0, r125)]) zr_13_76 rfl (by decide) (by omega) rfl ?_
                  refine zw_42 zr_13_79 ?_
                  exact zw_less (L := [(2, 45), (0, a0), (0, 1), (0, (i117 + 1)), (9, 0)]) ⟨Or.inr rfl, Or.inr rfl, Or.inr rfl, Or.inr rfl, Or.inl rfl, trivial⟩ (ihlp31_119 ((i117 + 1)) m165 hIm165 hFm165  km165_45_7 (by omega) (by omega)  (by omega))
              · intro h166; omega
            by_cases h167 : r125 = 62
            · refine zw_112 (off := 87) (t := 88) zr_7_1 (by rw [h167]; rfl) rfl ?_
              refine zw_push zr_7_88 ?_
              refine zw_R zr_7_89 (by decide) zm_7 (v := (0, 2)) rfl ?_
              rw [← hQ1]
              show zW E (d) 13 47 [(2, 45), (0, a0), (0, 1), (0, i117), (0, r125)] [(0, 2)] m124 Q
              refine zw_3 zr_13_47 rfl ?_
              refine zw_41_1 zr_13_48 ?_ ?_
              · intro h168
                refine zw_7 zr_13_52 rfl ?_
                refine zw_43 zr_13_53 rfl ?_
                refine zw_46i zr_13_54 ef126 rfl rfl rfl ?_
                refine zw_push zr_13_57 ?_
                refine zw_16 zr_13_58 (by omega) ?_
                refine zw_47 (c := 45) zr_13_59 rfl ⟨rfl, by decide, rfl⟩ ?_
                intro m169 em169
                have hIm169 : zInv m169 := by rw [em169]; exact hIm124.bd (r := 45) (k := 6) (lo := 0) (hi := 50) rfl (by omega) (by decide) (by decide) (by decide)
                have hFm169 : zFr W_13 m0 m169 := by rw [em169]; exact hFm124.up rfl
                have km169_45_7 : m169 45 7 = g0 := by rw [em169, zUp_ne (by omega)]; exact km124_45_7
                have km169_45_6 : m169 45 6 = (f126 + 1) := by rw [em169]; exact zUp_eq _ _ _ _
                clear em169
                refine zw_7 zr_13_62 rfl ?_
                refine zw_3 zr_13_63 rfl ?_
                refine zw_push zr_13_64 ?_
                refine zw_16 zr_13_65 (by omega) ?_
                refine zw_C zr_13_66 (Or.inl rfl) zm_13 rfl rfl ⟨Nat.le_of_ble_eq_true rfl, Nat.le_of_ble_eq_true rfl, Nat.le_of_ble_eq_true rfl, rfl, by decide⟩ (by omega) (ih13 m169 ((a0 + 1)) (g0) (by omega) hIm169 km169_45_7  (by omega) ) ?_
                rintro _ m170 ⟨rfl, hIm170, gm170, po0_m170⟩
                have hFm170 : zFr W_13 m0 m170 := hFm169.trans gm170 rfl
                show zW E (d) 13 69 [(2, 45), (0, a0), (0, 1), (0, i117), (0, r125)] [] m170 Q
                refine zw_7 zr_13_69 rfl ?_
                refine zw_4 zr_13_70 rfl ?_
                refine zw_38 zr_13_72 (by omega) ?_
                refine zw_C zr_13_73 (Or.inl rfl) zm_8 rfl rfl ⟨Nat.le_of_ble_eq_true rfl, Nat.le_of_ble_eq_true rfl, Nat.le_of_ble_eq_true rfl, rfl, by decide⟩ (by omega) (P := (fun v m' => zW E (d) 13 76 [(2, 45), (0, a0), (0, 1), (0, i117), (0, r125)] (if v.1 = 9 then [] else v :: []) m' Q)) ?_ (fun _ _ h => h)
                generalize hQ1 : (fun v m' => zW E (d) 13 76 [(2, 45), (0, a0), (0, 1), (0, i117), (0, r125)] (if v.1 = 9 then [] else v :: []) m' Q) = Q1
                show zW E (d - 1) 8 0 [(2, 45), (0, (-r125))] [] m170 Q1
                refine zw_7 zr_8_0 rfl ?_
                obtain ⟨f171, ef171⟩ : ∃ v, m170 45 8 = v := ⟨_, rfl⟩
                have bf171 := ib_45_8 hIm170
                rw [ef171] at bf171
                refine zw_46i zr_8_1 ef171 rfl rfl rfl ?_
                refine zw_push zr_8_4 ?_
                refine zw_41_3 zr_8_6 ?_ ?_
                · intro h172
                  refine zw_R zr_8_29 (by decide) zm_8 (v := (9, 0)) rfl ?_
                  rw [← hQ1]
                  show zW E (d) 13 76 [(2, 45), (0, a0), (0, 1), (0, i117), (0, r125)] [] m170 Q
                  refine zw_15 (c := 1) (L' := [(2, 45), (0, a0), (0, 1), (0, (i117 + 1)), (0, r125)]) zr_13_76 rfl (by decide) (by omega) rfl ?_
                  refine zw_42 zr_13_79 ?_
                  exact zw_less (L := [(2, 45), (0, a0), (0, 1), (0, (i117 + 1)), (9, 0)]) ⟨Or.inr rfl, Or.inr rfl, Or.inr rfl, Or.inr rfl, Or.inl rfl, trivial⟩ (ihlp31_119 ((i117 + 1)) m170 hIm170 hFm170  po0_m170 (by omega) (by omega)  (by omega))
                · intro h173
                  refine zw_7 zr_8_9 rfl ?_
                  refine zw_46r (s := 48) zr_8_10 rfl rfl rfl rfl ?_
                  refine zw_7 zr_8_13 rfl ?_
                  refine zw_46i zr_8_14 ef171 rfl rfl rfl ?_
                  refine zw_3 zr_8_17 rfl ?_
                  refine zw_49 (c := 48) (len := 50) zr_8_18 rfl rfl (by omega) (by omega) ?_
                  intro m174 em174
                  have hIm174 : zInv m174 := by rw [em174]; exact hIm170.any (by omega) rfl (by decide) (by decide)
                  have hFm174 : zFr W_13 m0 m174 := by rw [em174]; exact hFm170.any rfl
                  have km174_45_7 : m174 45 7 = g0 := by rw [em174, zUp_ne (by omega)]; exact po0_m170
                  have km174_45_8 : m174 45 8 = f171 := by rw [em174, zUp_ne (by omega)]; exact ef171
                  clear em174
                  refine zw_7 zr_8_19 rfl ?_
                  refine zw_43 zr_8_20 rfl ?_
                  refine zw_46i zr_8_21 km174_45_8 rfl rfl rfl ?_
                  refine zw_push zr_8_24 ?_
                  refine zw_16 zr_8_25 (by omega) ?_
                  refine zw_47 (c := 45) zr_8_26 rfl ⟨rfl, by decide, rfl⟩ ?_
                  intro m175 em175
                  have hIm175 : zInv m175 := by rw [em175]; exact hIm174.bd (r := 45) (k := 8) (lo := 0) (hi := 50) rfl (by omega) (by decide) (by decide) (by decide)
                  have hFm175 : zFr W_13 m0 m175 := by rw [em175]; exact hFm174.up rfl
                  have km175_45_7 : m175 45 7 = g0 := by rw [em175, zUp_ne (by omega)]; exact km174_45_7
                  have km175_45_8 : m175 45 8 = (f171 + 1) := by rw [em175]; exact zUp_eq _ _ _ _
                  clear em175
                  refine zw_R zr_8_29 (by decide) zm_8 (v := (9, 0)) rfl ?_
                  rw [← hQ1]
                  show zW E (d) 13 76 [(2, 45), (0, a0), (0, 1), (0, i117), (0, r125)] [] m175 Q
                  refine zw_15 (c := 1) (L' := [(2, 45), (0, a0), (0, 1), (0, (i117 + 1)), (0, r125)]) zr_13_76 rfl (by decide) (by omega) rfl ?_
                  refine zw_42 zr_13_79 ?_
                  exact zw_less (L := [(2, 45), (0, a0), (0, 1), (0, (i117 + 1)), (9, 0)]) ⟨Or.inr rfl, Or.inr rfl, Or.inr rfl, Or.inr rfl, Or.inl rfl, trivial⟩ (ihlp31_119 ((i117 + 1)) m175 hIm175 hFm175  km175_45_7 (by omega) (by omega)  (by omega))
              · intro h176; omega
            by_cases h177 : r125 = 124
            · refine zw_112 (off := 83) (t := 84) zr_7_1 (by rw [h177]; rfl) rfl ?_
              refine zw_push zr_7_84 ?_
              refine zw_R zr_7_85 (by decide) zm_7 (v := (0, 0)) rfl ?_
              rw [← hQ1]
              show zW E (d) 13 47 [(2, 45), (0, a0), (0, 1), (0, i117), (0, r125)] [(0, 0)] m124 Q
              refine zw_3 zr_13_47 rfl ?_
              refine zw_41_1 zr_13_48 ?_ ?_
              · intro h178; omega
              · intro h179
                refine zw_R zr_13_51 (by decide) zm_13 (v := (9, 0)) rfl ?_
                rw [← hQ]; exact ⟨rfl, hIm124, hFm124, by omega⟩
            refine zw_112 (off := 93) (t := 94) zr_7_1 (zlsw_df (by simp; omega)) rfl ?_
            refine zw_push zr_7_94 ?_
            refine zw_R zr_7_95 (by decide) zm_7 (v := (0, (-1))) rfl ?_
            rw [← hQ1]
            show zW E (d) 13 47 [(2, 45), (0, a0), (0, 1), (0, i117), (0, r125)] [(0, (-1))] m124 Q
            refine zw_3 zr_13_47 rfl ?_
            refine zw_41_1 zr_13_48 ?_ ?_
            · intro h181; omega
            · intro h182
              refine zw_R zr_13_51 (by decide) zm_13 (v := (9, 0)) rfl ?_
              rw [← hQ]; exact ⟨rfl, hIm124, hFm124, by omega⟩
      exact lp31_119 _ (0) m2 hIm2 hFm2  po0_m2 (by omega) (by omega)  (Nat.lt_succ_self _)
  · intro h184
    refine zw_7 zr_13_5 rfl ?_
    refine zw_C zr_13_6 (Or.inl rfl) zm_14 rfl rfl ⟨Nat.le_of_ble_eq_true rfl, Nat.le_of_ble_eq_true rfl, Nat.le_of_ble_eq_true rfl, rfl, by decide⟩ (by omega) (ih14 m0 (g0) (by omega) hI0 hg0   ) ?_
    rintro _ m185 ⟨rfl, hIm185, gm185, po0_m185⟩
    have hFm185 : zFr W_13 m0 m185 := hF0.trans gm185 rfl
    show zW E (d) 13 9 [(2, 45), (0, a0), (9, 0), (9, 0), (9, 0)] [] m185 Q
    refine zw_R zr_13_9 (by decide) zm_13 (v := (9, 0)) rfl ?_
    rw [← hQ]; exact ⟨rfl, hIm185, hFm185, by omega⟩
set_option maxHeartbeats 8000000 in
theorem tr_14 {E : zE} {d : Nat} (ih13 : rs_13 E (d - 1)) (ih14 : rs_14 E (d - 1)) (ih12 : rs_12 E (d - 1)) : rs_14 E d := by
  intro m0 g0 hd hI0 hg0
  have hF0 : zFr W_14 m0 m0 := zFr.rfl
  have bg0 := ib_45_7 hI0
  rw [hg0] at bg0
  generalize hQ : (fun (v : zV) (m' : zM) => v = (9, 0) ∧ zInv m' ∧ zFr W_14 m0 m' ∧ (m' 45 7 = g0)) = Q
  show zW E d 14 0 [(2, 45), (9, 0), (9, 0), (9, 0)] [] m0 Q
  refine zw_7 zr_14_0 rfl ?_
  obtain ⟨f1, ef1⟩ : ∃ v, m0 45 6 = v := ⟨_, rfl⟩
  have bf1 := ib_45_6 hI0
  rw [ef1] at bf1
  refine zw_46i zr_14_1 ef1 rfl rfl rfl ?_
  refine zw_9 (L' := [(2, 45), (0, f1), (9, 0), (9, 0)]) zr_14_4 (Nat.le_of_ble_eq_true rfl) rfl ?_
  refine zw_7 zr_14_5 rfl ?_
  refine zw_C zr_14_6 (Or.inl rfl) zm_6 rfl rfl ⟨Nat.le_of_ble_eq_true rfl, Nat.le_of_ble_eq_true rfl, Nat.le_of_ble_eq_true rfl, rfl, by decide⟩ (by omega) (th_6 (d := d - 1) (by omega) hI0        ) ?_
  rintro _ m2 ⟨r3, rfl, hr3a, hr3b, hIm2, gm2, po0_r3⟩
  have hFm2 : zFr W_14 m0 m2 := hF0.trans gm2 rfl
  have km2_45_7 : m2 45 7 = g0 := (gm2 45 7 rfl).trans hg0
  obtain ⟨f4, ef4⟩ : ∃ v, m2 45 6 = v := ⟨_, rfl⟩
  have bf4 := ib_45_6 hIm2
  rw [ef4] at bf4
  show zW E (d) 14 9 [(2, 45), (0, f1), (9, 0), (9, 0)] [(0, r3)] m2 Q
  refine zw_9 (L' := [(2, 45), (0, f1), (0, r3), (9, 0)]) zr_14_9 (Nat.le_of_ble_eq_true rfl) rfl ?_
  refine zw_push zr_14_10 ?_
  refine zw_9 (L' := [(2, 45), (0, f1), (0, r3), (0, 0)]) zr_14_11 (Nat.le_of_ble_eq_true rfl) rfl ?_
  have lp12_9 : ∀ (nlp12_9 : Nat) (i5 i6 p8 : Int) (m7 : zM), zInv m7 → zFr W_14 m0 m7 → m7 45 7 = g0 → m7 45 6 = p8 → (-1) ≤ i5 → i5 ≤ 127 → 0 ≤ i6 → i6 ≤ 50 → 0 ≤ p8 → p8 ≤ 50 → (i5 = -1 ∨ p8 ≤ 49) → (50 - i6).toNat < nlp12_9 → zW E (d) 14 12 [(2, 45), (0, f1), (0, i5), (0, i6)] [] m7 Q := by
    intro nlp12_9
    induction nlp12_9 with
    | zero =>
      intros
      exact absurd (by assumption : _ < 0) (Nat.not_lt_zero _)
    | succ nlp12_9 ihlp12_9 =>
      intro i5 i6 p8 m7 hIm7 hFm7 km7_45_7 km7_45_6 li5 ui5 li6 ui6 lp8 up8 hv0lp12_9 hmlp12_9
      refine zw_3 zr_14_12 rfl ?_
      refine zw_push zr_14_13 ?_
      refine zw_41_3 zr_14_15 ?_ ?_
      · intro h11
        refine zw_7 zr_14_51 rfl ?_
        refine zw_46i zr_14_52 km7_45_6 rfl rfl rfl ?_
        refine zw_9 (L' := [(2, 45), (0, f1), (0, i5), (0, p8)]) zr_14_55 (Nat.le_of_ble_eq_true rfl) rfl ?_
        refine zw_3 zr_14_56 rfl ?_
        refine zw_push zr_14_57 ?_
        refine zw_41_0 zr_14_59 ?_ ?_
        · intro h12
          refine zw_3 zr_14_75 rfl ?_
          refine zw_C zr_14_76 (Or.inr rfl) zm_10 rfl rfl ⟨Nat.le_of_ble_eq_true rfl, Nat.le_of_ble_eq_true rfl, Nat.le_of_ble_eq_true rfl, rfl, by decide⟩ (by omega) (P := (fun v m' => zW E (d) 14 79 [(2, 45), (0, f1), (0, i5), (0, p8)] (if v.1 = 9 then [] else v :: []) m' Q)) ?_ (fun _ _ h => h)
          generalize hQ1 : (fun v m' => zW E (d) 14 79 [(2, 45), (0, f1), (0, i5), (0, p8)] (if v.1 = 9 then [] else v :: []) m' Q) = Q1
          show zW E (d - 1) 10 0 [(0, i5)] [] m7 Q1
          refine zw_3 zr_10_0 rfl ?_
          refine zw_112 (off := 71) (t := 72) zr_10_1 (zlsw_df (by simp; omega)) rfl ?_
          refine zw_push zr_10_72 ?_
          refine zw_R zr_10_73 (by decide) zm_10 (v := (0, (-1))) rfl ?_
          rw [← hQ1]
          show zW E (d) 14 79 [(2, 45), (0, f1), (0, i5), (0, p8)] [(0, (-1))] m7 Q
          refine zw_push zr_14_79 ?_
          refine zw_41_1 zr_14_80 ?_ ?_
          · intro h13
            refine zw_3 zr_14_102 rfl ?_
            refine zw_push zr_14_103 ?_
            refine zw_41_4 zr_14_105 ?_ ?_
            · intro h14
              refine zw_7 zr_14_115 rfl ?_
              refine zw_push zr_14_116 ?_
              refine zw_C zr_14_117 (Or.inl rfl) zm_5 rfl rfl ⟨Nat.le_of_ble_eq_true rfl, Nat.le_of_ble_eq_true rfl, Nat.le_of_ble_eq_true rfl, rfl, by decide⟩ (by omega) (P := (fun v m' => zW E (d) 14 120 [(2, 45), (0, f1), (0, i5), (0, p8)] (if v.1 = 9 then [] else v :: []) m' Q)) ?_ (fun _ _ h => h)
              generalize hQ1 : (fun v m' => zW E (d) 14 120 [(2, 45), (0, f1), (0, i5), (0, p8)] (if v.1 = 9 then [] else v :: []) m' Q) = Q1
              show zW E (d - 1) 5 0 [(2, 45), (0, 1)] [] m7 Q1
              refine zw_7 zr_5_0 rfl ?_
              obtain ⟨f15, ef15⟩ : ∃ v, m7 45 1 = v := ⟨_, rfl⟩
              have bf15 := hIm7.fi (c := 45) (k := 1) rfl
              rw [ef15] at bf15
              refine zw_46i zr_5_1 ef15 rfl rfl rfl ?_
              refine zw_push zr_5_4 ?_
              refine zw_41_4 zr_5_5 ?_ ?_
              · intro h16
                refine zw_R zr_5_21 (by decide) zm_5 (v := (9, 0)) rfl ?_
                rw [← hQ1]
                show zW E (d) 14 120 [(2, 45), (0, f1), (0, i5), (0, p8)] [] m7 Q
                refine zw_7 zr_14_120 rfl ?_
                refine zw_3 zr_14_121 rfl ?_
                refine zw_3 zr_14_122 rfl ?_
                refine zw_C zr_14_123 (Or.inl rfl) zm_11 rfl rfl ⟨Nat.le_of_ble_eq_true rfl, Nat.le_of_ble_eq_true rfl, Nat.le_of_ble_eq_true rfl, rfl, by decide⟩ (by omega) (th_11 (d := d - 1) (by omega) hIm7 (a0 := f1) (a1 := p8)      (by omega) (by omega) ) ?_
                rintro _ m17 ⟨rfl, hIm17, gm17⟩
                have hFm17 : zFr W_14 m0 m17 := hFm7.trans gm17 rfl
                have km17_45_7 : m17 45 7 = g0 := (gm17 45 7 rfl).trans km7_45_7
                have km17_45_6 : m17 45 6 = p8 := (gm17 45 6 rfl).trans km7_45_6
                have km17_45_1 : m17 45 1 = f15 := (gm17 45 1 rfl).trans ef15
                show zW E (d) 14 126 [(2, 45), (0, f1), (0, i5), (0, p8)] [] m17 Q
                refine zw_R zr_14_126 (by decide) zm_14 (v := (9, 0)) rfl ?_
                rw [← hQ]; exact ⟨rfl, hIm17, hFm17, by omega⟩
              · intro h19
                refine zw_7 zr_5_8 rfl ?_
                refine zw_7 zr_5_9 rfl ?_
                refine zw_46i zr_5_10 km7_45_6 rfl rfl rfl ?_
                refine zw_push zr_5_13 ?_
                refine zw_18 zr_5_15 (by omega) ?_
                refine zw_3 zr_5_16 rfl ?_
                refine zw_16 zr_5_17 (by omega) ?_
                refine zw_47 (c := 45) zr_5_18 rfl ⟨rfl, by decide, rfl⟩ ?_
                intro m20 em20
                have hIm20 : zInv m20 := by rw [em20]; exact hIm7.any (by omega) rfl (by decide) (by decide)
                have hFm20 : zFr W_14 m0 m20 := by rw [em20]; exact hFm7.up rfl
                have km20_45_7 : m20 45 7 = g0 := by rw [em20, zUp_ne (by omega)]; exact km7_45_7
                have km20_45_6 : m20 45 6 = p8 := by rw [em20, zUp_ne (by omega)]; exact km7_45_6
                have km20_45_1 : m20 45 1 = ((p8 * 10) + 1) := by rw [em20]; exact zUp_eq _ _ _ _
                clear em20
                refine zw_R zr_5_21 (by decide) zm_5 (v := (9, 0)) rfl ?_
                rw [← hQ1]
                show zW E (d) 14 120 [(2, 45), (0, f1), (0, i5), (0, p8)] [] m20 Q
                refine zw_7 zr_14_120 rfl ?_
                refine zw_3 zr_14_121 rfl ?_
                refine zw_3 zr_14_122 rfl ?_
                refine zw_C zr_14_123 (Or.inl rfl) zm_11 rfl rfl ⟨Nat.le_of_ble_eq_true rfl, Nat.le_of_ble_eq_true rfl, Nat.le_of_ble_eq_true rfl, rfl, by decide⟩ (by omega) (th_11 (d := d - 1) (by omega) hIm20 (a0 := f1) (a1 := p8)      (by omega) (by omega) ) ?_
                rintro _ m21 ⟨rfl, hIm21, gm21⟩
                have hFm21 : zFr W_14 m0 m21 := hFm20.trans gm21 rfl
                have km21_45_7 : m21 45 7 = g0 := (gm21 45 7 rfl).trans km20_45_7
                have km21_45_6 : m21 45 6 = p8 := (gm21 45 6 rfl).trans km20_45_6
                have km21_45_1 : m21 45 1 = ((p8 * 10) + 1) := (gm21 45 1 rfl).trans km20_45_1
                show zW E (d) 14 126 [(2, 45), (0, f1), (0, i5), (0, p8)] [] m21 Q
                refine zw_R zr_14_126 (by decide) zm_14 (v := (9, 0)) rfl ?_
                rw [← hQ]; exact ⟨rfl, hIm21, hFm21, by omega⟩
            · intro h23
              refine zw_7 zr_14_108 rfl ?_
              refine zw_C zr_14_109 (Or.inl rfl) zm_12 rfl rfl ⟨Nat.le_of_ble_eq_true rfl, Nat.le_of_ble_eq_true rfl, Nat.le_of_ble_eq_true rfl, rfl, by decide⟩ (by omega) (ih12 m7 (g0) (p8) (by omega) hIm7 km7_45_7 km7_45_6   (by omega)) ?_
              rintro _ m24 ⟨rfl, hIm24, gm24, po0_m24⟩
              have hFm24 : zFr W_14 m0 m24 := hFm7.trans gm24 rfl
              show zW E (d) 14 112 [(2, 45), (0, f1), (0, i5), (0, p8)] [] m24 Q
              refine zw_42 zr_14_112 ?_
              refine zw_7 zr_14_120 rfl ?_
              refine zw_3 zr_14_121 rfl ?_
              refine zw_3 zr_14_122 rfl ?_
              refine zw_C zr_14_123 (Or.inl rfl) zm_11 rfl rfl ⟨Nat.le_of_ble_eq_true rfl, Nat.le_of_ble_eq_true rfl, Nat.le_of_ble_eq_true rfl, rfl, by decide⟩ (by omega) (th_11 (d := d - 1) (by omega) hIm24 (a0 := f1) (a1 := p8)      (by omega) (by omega) ) ?_
              rintro _ m25 ⟨rfl, hIm25, gm25⟩
              have hFm25 : zFr W_14 m0 m25 := hFm24.trans gm25 rfl
              have km25_45_7 : m25 45 7 = g0 := (gm25 45 7 rfl).trans po0_m24
              show zW E (d) 14 126 [(2, 45), (0, f1), (0, i5), (0, p8)] [] m25 Q
              refine zw_R zr_14_126 (by decide) zm_14 (v := (9, 0)) rfl ?_
              rw [← hQ]; exact ⟨rfl, hIm25, hFm25, by omega⟩
          · intro h27; omega
        · intro h28
          refine zw_3 zr_14_62 rfl ?_
          refine zw_push zr_14_63 ?_
          refine zw_41_2 zr_14_65 ?_ ?_
          · intro h29
            refine zw_3 zr_14_75 rfl ?_
            refine zw_C zr_14_76 (Or.inr rfl) zm_10 rfl rfl ⟨Nat.le_of_ble_eq_true rfl, Nat.le_of_ble_eq_true rfl, Nat.le_of_ble_eq_true rfl, rfl, by decide⟩ (by omega) (P := (fun v m' => zW E (d) 14 79 [(2, 45), (0, f1), (0, i5), (0, p8)] (if v.1 = 9 then [] else v :: []) m' Q)) ?_ (fun _ _ h => h)
            generalize hQ1 : (fun v m' => zW E (d) 14 79 [(2, 45), (0, f1), (0, i5), (0, p8)] (if v.1 = 9 then [] else v :: []) m' Q) = Q1
            show zW E (d - 1) 10 0 [(0, i5)] [] m7 Q1
            refine zw_3 zr_10_0 rfl ?_
            by_cases h30 : i5 = 101
            · refine zw_112 (off := 63) (t := 64) zr_10_1 (by rw [h30]; rfl) rfl ?_
              refine zw_push zr_10_64 ?_
              refine zw_R zr_10_65 (by decide) zm_10 (v := (0, 2)) rfl ?_
              rw [← hQ1]
              show zW E (d) 14 79 [(2, 45), (0, f1), (0, i5), (0, p8)] [(0, 2)] m7 Q
              refine zw_push zr_14_79 ?_
              refine zw_41_1 zr_14_80 ?_ ?_
              · intro h31; omega
              · intro h32
                refine zw_7 zr_14_83 rfl ?_
                refine zw_43 zr_14_84 rfl ?_
                refine zw_46i zr_14_85 km7_45_6 rfl rfl rfl ?_
                refine zw_push zr_14_88 ?_
                refine zw_16 zr_14_89 (by omega) ?_
                refine zw_47 (c := 45) zr_14_90 rfl ⟨rfl, by decide, rfl⟩ ?_
                intro m33 em33
                have hIm33 : zInv m33 := by rw [em33]; exact hIm7.bd (r := 45) (k := 6) (lo := 0) (hi := 50) rfl (by omega) (by decide) (by decide) (by decide)
                have hFm33 : zFr W_14 m0 m33 := by rw [em33]; exact hFm7.up rfl
                have km33_45_7 : m33 45 7 = g0 := by rw [em33, zUp_ne (by omega)]; exact km7_45_7
                have km33_45_6 : m33 45 6 = (p8 + 1) := by rw [em33]; exact zUp_eq _ _ _ _
                clear em33
                refine zw_7 zr_14_93 rfl ?_
                refine zw_3 zr_14_94 rfl ?_
                refine zw_38 zr_14_95 (by omega) ?_
                refine zw_C zr_14_96 (Or.inl rfl) zm_8 rfl rfl ⟨Nat.le_of_ble_eq_true rfl, Nat.le_of_ble_eq_true rfl, Nat.le_of_ble_eq_true rfl, rfl, by decide⟩ (by omega) (P := (fun v m' => zW E (d) 14 99 [(2, 45), (0, f1), (0, i5), (0, p8)] (if v.1 = 9 then [] else v :: []) m' Q)) ?_ (fun _ _ h => h)
                generalize hQ1 : (fun v m' => zW E (d) 14 99 [(2, 45), (0, f1), (0, i5), (0, p8)] (if v.1 = 9 then [] else v :: []) m' Q) = Q1
                show zW E (d - 1) 8 0 [(2, 45), (0, (-i5))] [] m33 Q1
                refine zw_7 zr_8_0 rfl ?_
                obtain ⟨f34, ef34⟩ : ∃ v, m33 45 8 = v := ⟨_, rfl⟩
                have bf34 := ib_45_8 hIm33
                rw [ef34] at bf34
                refine zw_46i zr_8_1 ef34 rfl rfl rfl ?_
                refine zw_push zr_8_4 ?_
                refine zw_41_3 zr_8_6 ?_ ?_
                · intro h35
                  refine zw_R zr_8_29 (by decide) zm_8 (v := (9, 0)) rfl ?_
                  rw [← hQ1]
                  show zW E (d) 14 99 [(2, 45), (0, f1), (0, i5), (0, p8)] [] m33 Q
                  refine zw_42 zr_14_99 ?_
                  refine zw_7 zr_14_120 rfl ?_
                  refine zw_3 zr_14_121 rfl ?_
                  refine zw_3 zr_14_122 rfl ?_
                  refine zw_C zr_14_123 (Or.inl rfl) zm_11 rfl rfl ⟨Nat.le_of_ble_eq_true rfl, Nat.le_of_ble_eq_true rfl, Nat.le_of_ble_eq_true rfl, rfl, by decide⟩ (by omega) (th_11 (d := d - 1) (by omega) hIm33 (a0 := f1) (a1 := p8)      (by omega) (by omega) ) ?_
                  rintro _ m36 ⟨rfl, hIm36, gm36⟩
                  have hFm36 : zFr W_14 m0 m36 := hFm33.trans gm36 rfl
                  have km36_45_7 : m36 45 7 = g0 := (gm36 45 7 rfl).trans km33_45_7
                  have km36_45_6 : m36 45 6 = (p8 + 1) := (gm36 45 6 rfl).trans km33_45_6
                  show zW E (d) 14 126 [(2, 45), (0, f1), (0, i5), (0, p8)] [] m36 Q
                  refine zw_R zr_14_126 (by decide) zm_14 (v := (9, 0)) rfl ?_
                  rw [← hQ]; exact ⟨rfl, hIm36, hFm36, by omega⟩
                · intro h38
                  refine zw_7 zr_8_9 rfl ?_
                  refine zw_46r (s := 48) zr_8_10 rfl rfl rfl rfl ?_
                  refine zw_7 zr_8_13 rfl ?_
                  refine zw_46i zr_8_14 ef34 rfl rfl rfl ?_
                  refine zw_3 zr_8_17 rfl ?_
                  refine zw_49 (c := 48) (len := 50) zr_8_18 rfl rfl (by omega) (by omega) ?_
                  intro m39 em39
                  have hIm39 : zInv m39 := by rw [em39]; exact hIm33.any (by omega) rfl (by decide) (by decide)
                  have hFm39 : zFr W_14 m0 m39 := by rw [em39]; exact hFm33.any rfl
                  have km39_45_7 : m39 45 7 = g0 := by rw [em39, zUp_ne (by omega)]; exact km33_45_7
                  have km39_45_6 : m39 45 6 = (p8 + 1) := by rw [em39, zUp_ne (by omega)]; exact km33_45_6
                  have km39_45_8 : m39 45 8 = f34 := by rw [em39, zUp_ne (by omega)]; exact ef34
                  clear em39
                  refine zw_7 zr_8_19 rfl ?_
                  refine zw_43 zr_8_20 rfl ?_
                  refine zw_46i zr_8_21 km39_45_8 rfl rfl rfl ?_
                  refine zw_push zr_8_24 ?_
                  refine zw_16 zr_8_25 (by omega) ?_
                  refine zw_47 (c := 45) zr_8_26 rfl ⟨rfl, by decide, rfl⟩ ?_
                  intro m40 em40
                  have hIm40 : zInv m40 := by rw [em40]; exact hIm39.bd (r := 45) (k := 8) (lo := 0) (hi := 50) rfl (by omega) (by decide) (by decide) (by decide)
                  have hFm40 : zFr W_14 m0 m40 := by rw [em40]; exact hFm39.up rfl
                  have km40_45_7 : m40 45 7 = g0 := by rw [em40, zUp_ne (by omega)]; exact km39_45_7
                  have km40_45_6 : m40 45 6 = (p8 + 1) := by rw [em40, zUp_ne (by omega)]; exact km39_45_6
                  have km40_45_8 : m40 45 8 = (f34 + 1) := by rw [em40]; exact zUp_eq _ _ _ _
                  clear em40
                  refine zw_R zr_8_29 (by decide) zm_8 (v := (9, 0)) rfl ?_
                  rw [← hQ1]
                  show zW E (d) 14 99 [(2, 45), (0, f1), (0, i5), (0, p8)] [] m40 Q
                  refine zw_42 zr_14_99 ?_
                  refine zw_7 zr_14_120 rfl ?_
                  refine zw_3 zr_14_121 rfl ?_
                  refine zw_3 zr_14_122 rfl ?_
                  refine zw_C zr_14_123 (Or.inl rfl) zm_11 rfl rfl ⟨Nat.le_of_ble_eq_true rfl, Nat.le_of_ble_eq_true rfl, Nat.le_of_ble_eq_true rfl, rfl, by decide⟩ (by omega) (th_11 (d := d - 1) (by omega) hIm40 (a0 := f1) (a1 := p8)      (by omega) (by omega) ) ?_
                  rintro _ m41 ⟨rfl, hIm41, gm41⟩
                  have hFm41 : zFr W_14 m0 m41 := hFm40.trans gm41 rfl
                  have km41_45_7 : m41 45 7 = g0 := (gm41 45 7 rfl).trans km40_45_7
                  have km41_45_6 : m41 45 6 = (p8 + 1) := (gm41 45 6 rfl).trans km40_45_6
                  show zW E (d) 14 126 [(2, 45), (0, f1), (0, i5), (0, p8)] [] m41 Q
                  refine zw_R zr_14_126 (by decide) zm_14 (v := (9, 0)) rfl ?_
                  rw [← hQ]; exact ⟨rfl, hIm41, hFm41, by omega⟩
            by_cases h43 : i5 = 103
            · refine zw_112 (off := 69) (t := 70) zr_10_1 (by rw [h43]; rfl) rfl ?_
              refine zw_push zr_10_70 ?_
              refine zw_R zr_10_71 (by decide) zm_10 (v := (0, 5)) rfl ?_
              rw [← hQ1]
              show zW E (d) 14 79 [(2, 45), (0, f1), (0, i5), (0, p8)] [(0, 5)] m7 Q
              refine zw_push zr_14_79 ?_
              refine zw_41_1 zr_14_80 ?_ ?_
              · intro h44; omega
              · intro h45
                refine zw_7 zr_14_83 rfl ?_
                refine zw_43 zr_14_84 rfl ?_
                refine zw_46i zr_14_85 km7_45_6 rfl rfl rfl ?_
                refine zw_push zr_14_88 ?_
                refine zw_16 zr_14_89 (by omega) ?_
                refine zw_47 (c := 45) zr_14_90 rfl ⟨rfl, by decide, rfl⟩ ?_
                intro m46 em46
                have hIm46 : zInv m46 := by rw [em46]; exact hIm7.bd (r := 45) (k := 6) (lo := 0) (hi := 50) rfl (by omega) (by decide) (by decide) (by decide)
                have hFm46 : zFr W_14 m0 m46 := by rw [em46]; exact hFm7.up rfl
                have km46_45_7 : m46 45 7 = g0 := by rw [em46, zUp_ne (by omega)]; exact km7_45_7
                have km46_45_6 : m46 45 6 = (p8 + 1) := by rw [em46]; exact zUp_eq _ _ _ _
                clear em46
                refine zw_7 zr_14_93 rfl ?_
                refine zw_3 zr_14_94 rfl ?_
                refine zw_38 zr_14_95 (by omega) ?_
                refine zw_C zr_14_96 (Or.inl rfl) zm_8 rfl rfl ⟨Nat.le_of_ble_eq_true rfl, Nat.le_of_ble_eq_true rfl, Nat.le_of_ble_eq_true rfl, rfl, by decide⟩ (by omega) (P := (fun v m' => zW E (d) 14 99 [(2, 45), (0, f1), (0, i5), (0, p8)] (if v.1 = 9 then [] else v :: []) m' Q)) ?_ (fun _ _ h => h)
                generalize hQ1 : (fun v m' => zW E (d) 14 99 [(2, 45), (0, f1), (0, i5), (0, p8)] (if v.1 = 9 then [] else v :: []) m' Q) = Q1
                show zW E (d - 1) 8 0 [(2, 45), (0, (-i5))] [] m46 Q1
                refine zw_7 zr_8_0 rfl ?_
                obtain ⟨f47, ef47⟩ : ∃ v, m46 45 8 = v := ⟨_, rfl⟩
                have bf47 := ib_45_8 hIm46
                rw [ef47] at bf47
                refine zw_46i zr_8_1 ef47 rfl rfl rfl ?_
                refine zw_push zr_8_4 ?_
                refine zw_41_3 zr_8_6 ?_ ?_
                · intro h48
                  refine zw_R zr_8_29 (by decide) zm_8 (v := (9, 0)) rfl ?_
                  rw [← hQ1]
                  show zW E (d) 14 99 [(2, 45), (0, f1), (0, i5), (0, p8)] [] m46 Q
                  refine zw_42 zr_14_99 ?_
                  refine zw_7 zr_14_120 rfl ?_
                  refine zw_3 zr_14_121 rfl ?_
                  refine zw_3 zr_14_122 rfl ?_
                  refine zw_C zr_14_123 (Or.inl rfl) zm_11 rfl rfl ⟨Nat.le_of_ble_eq_true rfl, Nat.le_of_ble_eq_true rfl, Nat.le_of_ble_eq_true rfl, rfl, by decide⟩ (by omega) (th_11 (d := d - 1) (by omega) hIm46 (a0 := f1) (a1 := p8)      (by omega) (by omega) ) ?_
                  rintro _ m49 ⟨rfl, hIm49, gm49⟩
                  have hFm49 : zFr W_14 m0 m49 := hFm46.trans gm49 rfl
                  have km49_45_7 : m49 45 7 = g0 := (gm49 45 7 rfl).trans km46_45_7
                  have km49_45_6 : m49 45 6 = (p8 + 1) := (gm49 45 6 rfl).trans km46_45_6
                  show zW E (d) 14 126 [(2, 45), (0, f1), (0, i5), (0, p8)] [] m49 Q
                  refine zw_R zr_14_126 (by decide) zm_14 (v := (9, 0)) rfl ?_
                  rw [← hQ]; exact ⟨rfl, hIm49, hFm49, by omega⟩
                · intro h51
                  refine zw_7 zr_8_9 rfl ?_
                  refine zw_46r (s := 48) zr_8_10 rfl rfl rfl rfl ?_
                  refine zw_7 zr_8_13 rfl ?_
                  refine zw_46i zr_8_14 ef47 rfl rfl rfl ?_
                  refine zw_3 zr_8_17 rfl ?_
                  refine zw_49 (c := 48) (len := 50) zr_8_18 rfl rfl (by omega) (by omega) ?_
                  intro m52 em52
                  have hIm52 : zInv m52 := by rw [em52]; exact hIm46.any (by omega) rfl (by decide) (by decide)
                  have hFm52 : zFr W_14 m0 m52 := by rw [em52]; exact hFm46.any rfl
                  have km52_45_7 : m52 45 7 = g0 := by rw [em52, zUp_ne (by omega)]; exact km46_45_7
                  have km52_45_6 : m52 45 6 = (p8 + 1) := by rw [em52, zUp_ne (by omega)]; exact km46_45_6
                  have km52_45_8 : m52 45 8 = f47 := by rw [em52, zUp_ne (by omega)]; exact ef47
                  clear em52
                  refine zw_7 zr_8_19 rfl ?_
                  refine zw_43 zr_8_20 rfl ?_
                  refine zw_46i zr_8_21 km52_45_8 rfl rfl rfl ?_
                  refine zw_push zr_8_24 ?_
                  refine zw_16 zr_8_25 (by omega) ?_
                  refine zw_47 (c := 45) zr_8_26 rfl ⟨rfl, by decide, rfl⟩ ?_
                  intro m53 em53
                  have hIm53 : zInv m53 := by rw [em53]; exact hIm52.bd (r := 45) (k := 8) (lo := 0) (hi := 50) rfl (by omega) (by decide) (by decide) (by decide)
                  have hFm53 : zFr W_14 m0 m53 := by rw [em53]; exact hFm52.up rfl
                  have km53_45_7 : m53 45 7 = g0 := by rw [em53, zUp_ne (by omega)]; exact km52_45_7
                  have km53_45_6 : m53 45 6 = (p8 + 1) := by rw [em53, zUp_ne (by omega)]; exact km52_45_6
                  have km53_45_8 : m53 45 8 = (f47 + 1) := by rw [em53]; exact zUp_eq _ _ _ _
                  clear em53
                  refine zw_R zr_8_29 (by decide) zm_8 (v := (9, 0)) rfl ?_
                  rw [← hQ1]
                  show zW E (d) 14 99 [(2, 45), (0, f1), (0, i5), (0, p8)] [] m53 Q
                  refine zw_42 zr_14_99 ?_
                  refine zw_7 zr_14_120 rfl ?_
                  refine zw_3 zr_14_121 rfl ?_
                  refine zw_3 zr_14_122 rfl ?_
                  refine zw_C zr_14_123 (Or.inl rfl) zm_11 rfl rfl ⟨Nat.le_of_ble_eq_true rfl, Nat.le_of_ble_eq_true rfl, Nat.le_of_ble_eq_true rfl, rfl, by decide⟩ (by omega) (th_11 (d := d - 1) (by omega) hIm53 (a0 := f1) (a1 := p8)      (by omega) (by omega) ) ?_
                  rintro _ m54 ⟨rfl, hIm54, gm54⟩
                  have hFm54 : zFr W_14 m0 m54 := hFm53.trans gm54 rfl
                  have km54_45_7 : m54 45 7 = g0 := (gm54 45 7 rfl).trans km53_45_7
                  have km54_45_6 : m54 45 6 = (p8 + 1) := (gm54 45 6 rfl).trans km53_45_6
                  show zW E (d) 14 126 [(2, 45), (0, f1), (0, i5), (0, p8)] [] m54 Q
                  refine zw_R zr_14_126 (by decide) zm_14 (v := (9, 0)) rfl ?_
                  rw [← hQ]; exact ⟨rfl, hIm54, hFm54, by omega⟩
            by_cases h56 : i5 = 109
            · refine zw_112 (off := 65) (t := 66) zr_10_1 (by rw [h56]; rfl) rfl ?_
              refine zw_push zr_10_66 ?_
              refine zw_R zr_10_67 (by decide) zm_10 (v := (0, 3)) rfl ?_
              rw [← hQ1]
              show zW E (d) 14 79 [(2, 45), (0, f1), (0, i5), (0, p8)] [(0, 3)] m7 Q
              refine zw_push zr_14_79 ?_
              refine zw_41_1 zr_14_80 ?_ ?_
              · intro h57; omega
              · intro h58
                refine zw_7 zr_14_83 rfl ?_
                refine zw_43 zr_14_84 rfl ?_
                refine zw_46i zr_14_85 km7_45_6 rfl rfl rfl ?_
                refine zw_push zr_14_88 ?_
                refine zw_16 zr_14_89 (by omega) ?_
                refine zw_47 (c := 45) zr_14_90 rfl ⟨rfl, by decide, rfl⟩ ?_
                intro m59 em59
                have hIm59 : zInv m59 := by rw [em59]; exact hIm7.bd (r := 45) (k := 6) (lo := 0) (hi := 50) rfl (by omega) (by decide) (by decide) (by decide)
                have hFm59 : zFr W_14 m0 m59 := by rw [em59]; exact hFm7.up rfl
                have km59_45_7 : m59 45 7 = g0 := by rw [em59, zUp_ne (by omega)]; exact km7_45_7
                have km59_45_6 : m59 45 6 = (p8 + 1) := by rw [em59]; exact zUp_eq _ _ _ _
                clear em59
                refine zw_7 zr_14_93 rfl ?_
                refine zw_3 zr_14_94 rfl ?_
                refine zw_38 zr_14_95 (by omega) ?_
                refine zw_C zr_14_96 (Or.inl rfl) zm_8 rfl rfl ⟨Nat.le_of_ble_eq_true rfl, Nat.le_of_ble_eq_true rfl, Nat.le_of_ble_eq_true rfl, rfl, by decide⟩ (by omega) (P := (fun v m' => zW E (d) 14 99 [(2, 45), (0, f1), (0, i5), (0, p8)] (if v.1 = 9 then [] else v :: []) m' Q)) ?_ (fun _ _ h => h)
                generalize hQ1 : (fun v m' => zW E (d) 14 99 [(2, 45), (0, f1), (0, i5), (0, p8)] (if v.1 = 9 then [] else v :: []) m' Q) = Q1
                show zW E (d - 1) 8 0 [(2, 45), (0, (-i5))] [] m59 Q1
                refine zw_7 zr_8_0 rfl ?_
                obtain ⟨f60, ef60⟩ : ∃ v, m59 45 8 = v := ⟨_, rfl⟩
                have bf60 := ib_45_8 hIm59
                rw [ef60] at bf60
                refine zw_46i zr_8_1 ef60 rfl rfl rfl ?_
                refine zw_push zr_8_4 ?_
                refine zw_41_3 zr_8_6 ?_ ?_
                · intro h61
                  refine zw_R zr_8_29 (by decide) zm_8 (v := (9, 0)) rfl ?_
                  rw [← hQ1]
                  show zW E (d) 14 99 [(2, 45), (0, f1), (0, i5), (0, p8)] [] m59 Q
                  refine zw_42 zr_14_99 ?_
                  refine zw_7 zr_14_120 rfl ?_
                  refine zw_3 zr_14_121 rfl ?_
                  refine zw_3 zr_14_122 rfl ?_
                  refine zw_C zr_14_123 (Or.inl rfl) zm_11 rfl rfl ⟨Nat.le_of_ble_eq_true rfl, Nat.le_of_ble_eq_true rfl, Nat.le_of_ble_eq_true rfl, rfl, by decide⟩ (by omega) (th_11 (d := d - 1) (by omega) hIm59 (a0 := f1) (a1 := p8)      (by omega) (by omega) ) ?_
                  rintro _ m62 ⟨rfl, hIm62, gm62⟩
                  have hFm62 : zFr W_14 m0 m62 := hFm59.trans gm62 rfl
                  have km62_45_7 : m62 45 7 = g0 := (gm62 45 7 rfl).trans km59_45_7
                  have km62_45_6 : m62 45 6 = (p8 + 1) := (gm62 45 6 rfl).trans km59_45_6
                  show zW E (d) 14 126 [(2, 45), (0, f1), (0, i5), (0, p8)] [] m62 Q
                  refine zw_R zr_14_126 (by decide) zm_14 (v := (9, 0)) rfl ?_
                  rw [← hQ]; exact ⟨rfl, hIm62, hFm62, by omega⟩
                · intro h64
                  refine zw_7 zr_8_9 rfl ?_
                  refine zw_46r (s := 48) zr_8_10 rfl rfl rfl rfl ?_
                  refine zw_7 zr_8_13 rfl ?_
                  refine zw_46i zr_8_14 ef60 rfl rfl rfl ?_
                  refine zw_3 zr_8_17 rfl ?_
                  refine zw_49 (c := 48) (len := 50) zr_8_18 rfl rfl (by omega) (by omega) ?_
                  intro m65 em65
                  have hIm65 : zInv m65 := by rw [em65]; exact hIm59.any (by omega) rfl (by decide) (by decide)
                  have hFm65 : zFr W_14 m0 m65 := by rw [em65]; exact hFm59.any rfl
                  have km65_45_7 : m65 45 7 = g0 := by rw [em65, zUp_ne (by omega)]; exact km59_45_7
                  have km65_45_6 : m65 45 6 = (p8 + 1) := by rw [em65, zUp_ne (by omega)]; exact km59_45_6
                  have km65_45_8 : m65 45 8 = f60 := by rw [em65, zUp_ne (by omega)]; exact ef60
                  clear em65
                  refine zw_7 zr_8_19 rfl ?_
                  refine zw_43 zr_8_20 rfl ?_
                  refine zw_46i zr_8_21 km65_45_8 rfl rfl rfl ?_
                  refine zw_push zr_8_24 ?_
                  refine zw_16 zr_8_25 (by omega) ?_
                  refine zw_47 (c := 45) zr_8_26 rfl ⟨rfl, by decide, rfl⟩ ?_
                  intro m66 em66
                  have hIm66 : zInv m66 := by rw [em66]; exact hIm65.bd (r := 45) (k := 8) (lo := 0) (hi := 50) rfl (by omega) (by decide) (by decide) (by decide)
                  have hFm66 : zFr W_14 m0 m66 := by rw [em66]; exact hFm65.up rfl
                  have km66_45_7 : m66 45 7 = g0 := by rw [em66, zUp_ne (by omega)]; exact km65_45_7
                  have km66_45_6 : m66 45 6 = (p8 + 1) := by rw [em66, zUp_ne (by omega)]; exact km65_45_6
                  have km66_45_8 : m66 45 8 = (f60 + 1) := by rw [em66]; exact zUp_eq _ _ _ _
                  clear em66
                  refine zw_R zr_8_29 (by decide) zm_8 (v := (9, 0)) rfl ?_
                  rw [← hQ1]
                  show zW E (d) 14 99 [(2, 45), (0, f1), (0, i5), (0, p8)] [] m66 Q
                  refine zw_42 zr_14_99 ?_
                  refine zw_7 zr_14_120 rfl ?_
                  refine zw_3 zr_14_121 rfl ?_
                  refine zw_3 zr_14_122 rfl ?_
                  refine zw_C zr_14_123 (Or.inl rfl) zm_11 rfl rfl ⟨Nat.le_of_ble_eq_true rfl, Nat.le_of_ble_eq_true rfl, Nat.le_of_ble_eq_true rfl, rfl, by decide⟩ (by omega) (th_11 (d := d - 1) (by omega) hIm66 (a0 := f1) (a1 := p8)      (by omega) (by omega) ) ?_
                  rintro _ m67 ⟨rfl, hIm67, gm67⟩
                  have hFm67 : zFr W_14 m0 m67 := hFm66.trans gm67 rfl
                  have km67_45_7 : m67 45 7 = g0 := (gm67 45 7 rfl).trans km66_45_7
                  have km67_45_6 : m67 45 6 = (p8 + 1) := (gm67 45 6 rfl).trans km66_45_6
                  show zW E (d) 14 126 [(2, 45), (0, f1), (0, i5), (0, p8)] [] m67 Q
                  refine zw_R zr_14_126 (by decide) zm_14 (v := (9, 0)) rfl ?_
                  rw [← hQ]; exact ⟨rfl, hIm67, hFm67, by omega⟩
            by_cases h69 : i5 = 111
            · refine zw_112 (off := 61) (t := 62) zr_10_1 (by rw [h69]; rfl) rfl ?_
              refine zw_push zr_10_62 ?_
              refine zw_R zr_10_63 (by decide) zm_10 (v := (0, 1)) rfl ?_
              rw [← hQ1]
              show zW E (d) 14 79 [(2, 45), (0, f1), (0, i5), (0, p8)] [(0, 1)] m7 Q
              refine zw_push zr_14_79 ?_
              refine zw_41_1 zr_14_80 ?_ ?_
              · intro h70; omega
              · intro h71
                refine zw_7 zr_14_83 rfl ?_
                refine zw_43 zr_14_84 rfl ?_
                refine zw_46i zr_14_85 km7_45_6 rfl rfl rfl ?_
                refine zw_push zr_14_88 ?_
                refine zw_16 zr_14_89 (by omega) ?_
                refine zw_47 (c := 45) zr_14_90 rfl ⟨rfl, by decide, rfl⟩ ?_
                intro m72 em72
                have hIm72 : zInv m72 := by rw [em72]; exact hIm7.bd (r := 45) (k := 6) (lo := 0) (hi := 50) rfl (by omega) (by decide) (by decide) (by decide)
                have hFm72 : zFr W_14 m0 m72 := by rw [em72]; exact hFm7.up rfl
                have km72_45_7 : m72 45 7 = g0 := by rw [em72, zUp_ne (by omega)]; exact km7_45_7
                have km72_45_6 : m72 45 6 = (p8 + 1) := by rw [em72]; exact zUp_eq _ _ _ _
                clear em72
                refine zw_7 zr_14_93 rfl ?_
                refine zw_3 zr_14_94 rfl ?_
                refine zw_38 zr_14_95 (by omega) ?_
                refine zw_C zr_14_96 (Or.inl rfl) zm_8 rfl rfl ⟨Nat.le_of_ble_eq_true rfl, Nat.le_of_ble_eq_true rfl, Nat.le_of_ble_eq_true rfl, rfl, by decide⟩ (by omega) (P := (fun v m' => zW E (d) 14 99 [(2, 45), (0, f1), (0, i5), (0, p8)] (if v.1 = 9 then [] else v :: []) m' Q)) ?_ (fun _ _ h => h)
                generalize hQ1 : (fun v m' => zW E (d) 14 99 [(2, 45), (0, f1), (0, i5), (0, p8)] (if v.1 = 9 then [] else v :: []) m' Q) = Q1
                show zW E (d - 1) 8 0 [(2, 45), (0, (-i5))] [] m72 Q1
                refine zw_7 zr_8_0 rfl ?_
                obtain ⟨f73, ef73⟩ : ∃ v, m72 45 8 = v := ⟨_, rfl⟩
                have bf73 := ib_45_8 hIm72
                rw [ef73] at bf73
                refine zw_46i zr_8_1 ef73 rfl rfl rfl ?_
                refine zw_push zr_8_4 ?_
                refine zw_41_3 zr_8_6 ?_ ?_
                · intro h74
                  refine zw_R zr_8_29 (by decide) zm_8 (v := (9, 0)) rfl ?_
                  rw [← hQ1]
                  show zW E (d) 14 99 [(2, 45), (0, f1), (0, i5), (0, p8)] [] m72 Q
                  refine zw_42 zr_14_99 ?_
                  refine zw_7 zr_14_120 rfl ?_
                  refine zw_3 zr_14_121 rfl ?_
                  refine zw_3 zr_14_122 rfl ?_
                  refine zw_C zr_14_123 (Or.inl rfl) zm_11 rfl rfl ⟨Nat.le_of_ble_eq_true rfl, Nat.le_of_ble_eq_true rfl, Nat.le_of_ble_eq_true rfl, rfl, by decide⟩ (by omega) (th_11 (d := d - 1) (by omega) hIm72 (a0 := f1) (a1 := p8)      (by omega) (by omega) ) ?_
                  rintro _ m75 ⟨rfl, hIm75, gm75⟩
                  have hFm75 : zFr W_14 m0 m75 := hFm72.trans gm75 rfl
                  have km75_45_7 : m75 45 7 = g0 := (gm75 45 7 rfl).trans km72_45_7
                  have km75_45_6 : m75 45 6 = (p8 + 1) := (gm75 45 6 rfl).trans km72_45_6
                  show zW E (d) 14 126 [(2, 45), (0, f1), (0, i5), (0, p8)] [] m75 Q
                  refine zw_R zr_14_126 (by decide) zm_14 (v := (9, 0)) rfl ?_
                  rw [← hQ]; exact ⟨rfl, hIm75, hFm75, by omega⟩
                · intro h77
                  refine zw_7 zr_8_9 rfl ?_
                  refine zw_46r (s := 48) zr_8_10 rfl rfl rfl rfl ?_
                  refine zw_7 zr_8_13 rfl ?_
                  refine zw_46i zr_8_14 ef73 rfl rfl rfl ?_
                  refine zw_3 zr_8_17 rfl ?_
                  refine zw_49 (c := 48) (len := 50) zr_8_18 rfl rfl (by omega) (by omega) ?_
                  intro m78 em78
                  have hIm78 : zInv m78 := by rw [em78]; exact hIm72.any (by omega) rfl (by decide) (by decide)
                  have hFm78 : zFr W_14 m0 m78 := by rw [em78]; exact hFm72.any rfl
                  have km78_45_7 : m78 45 7 = g0 := by rw [em78, zUp_ne (by omega)]; exact km72_45_7
                  have km78_45_6 : m78 45 6 = (p8 + 1) := by rw [em78, zUp_ne (by omega)]; exact km72_45_6
                  have km78_45_8 : m78 45 8 = f73 := by rw [em78, zUp_ne (by omega)]; exact ef73
                  clear em78
                  refine zw_7 zr_8_19 rfl ?_
                  refine zw_43 zr_8_20 rfl ?_
                  refine zw_46i zr_8_21 km78_45_8 rfl rfl rfl ?_
                  refine zw_push zr_8_24 ?_
                  refine zw_16 zr_8_25 (by omega) ?_
                  refine zw_47 (c := 45) zr_8_26 rfl ⟨rfl, by decide, rfl⟩ ?_
                  intro m79 em79
                  have hIm79 : zInv m79 := by rw [em79]; exact hIm78.bd (r := 45) (k := 8) (lo := 0) (hi := 50) rfl (by omega) (by decide) (by decide) (by decide)
                  have hFm79 : zFr W_14 m0 m79 := by rw [em79]; exact hFm78.up rfl
                  have km79_45_7 : m79 45 7 = g0 := by rw [em79, zUp_ne (by omega)]; exact km78_45_7
                  have km79_45_6 : m79 45 6 = (p8 + 1) := by rw [em79, zUp_ne (by omega)]; exact km78_45_6
                  have km79_45_8 : m79 45 8 = (f73 + 1) := by rw [em79]; exact zUp_eq _ _ _ _
                  clear em79
                  refine zw_R zr_8_29 (by decide) zm_8 (v := (9, 0)) rfl ?_
                  rw [← hQ1]
                  show zW E (d) 14 99 [(2, 45), (0, f1), (0, i5), (0, p8)] [] m79 Q
                  refine zw_42 zr_14_99 ?_
                  refine zw_7 zr_14_120 rfl ?_
                  refine zw_3 zr_14_121 rfl ?_
                  refine zw_3 zr_14_122 rfl ?_
                  refine zw_C zr_14_123 (Or.inl rfl) zm_11 rfl rfl ⟨Nat.le_of_ble_eq_true rfl, Nat.le_of_ble_eq_true rfl, Nat.le_of_ble_eq_true rfl, rfl, by decide⟩ (by omega) (th_11 (d := d - 1) (by omega) hIm79 (a0 := f1) (a1 := p8)      (by omega) (by omega) ) ?_
                  rintro _ m80 ⟨rfl, hIm80, gm80⟩
                  have hFm80 : zFr W_14 m0 m80 := hFm79.trans gm80 rfl
                  have km80_45_7 : m80 45 7 = g0 := (gm80 45 7 rfl).trans km79_45_7
                  have km80_45_6 : m80 45 6 = (p8 + 1) := (gm80 45 6 rfl).trans km79_45_6
                  show zW E (d) 14 126 [(2, 45), (0, f1), (0, i5), (0, p8)] [] m80 Q
                  refine zw_R zr_14_126 (by decide) zm_14 (v := (9, 0)) rfl ?_
                  rw [← hQ]; exact ⟨rfl, hIm80, hFm80, by omega⟩
            by_cases h82 : i5 = 120
            · refine zw_112 (off := 59) (t := 60) zr_10_1 (by rw [h82]; rfl) rfl ?_
              refine zw_push zr_10_60 ?_
              refine zw_R zr_10_61 (by decide) zm_10 (v := (0, 0)) rfl ?_
              rw [← hQ1]
              show zW E (d) 14 79 [(2, 45), (0, f1), (0, i5), (0, p8)] [(0, 0)] m7 Q
              refine zw_push zr_14_79 ?_
              refine zw_41_1 zr_14_80 ?_ ?_
              · intro h83; omega
              · intro h84
                refine zw_7 zr_14_83 rfl ?_
                refine zw_43 zr_14_84 rfl ?_
                refine zw_46i zr_14_85 km7_45_6 rfl rfl rfl ?_
                refine zw_push zr_14_88 ?_
                refine zw_16 zr_14_89 (by omega) ?_
                refine zw_47 (c := 45) zr_14_90 rfl ⟨rfl, by decide, rfl⟩ ?_
                intro m85 em85
                have hIm85 : zInv m85 := by rw [em85]; exact hIm7.bd (r := 45) (k := 6) (lo := 0) (hi := 50) rfl (by omega) (by decide) (by decide) (by decide)
                have hFm85 : zFr W_14 m0 m85 := by rw [em85]; exact hFm7.up rfl
                have km85_45_7 : m85 45 7 = g0 := by rw [em85, zUp_ne (by omega)]; exact km7_45_7
                have km85_45_6 : m85 45 6 = (p8 + 1) := by rw [em85]; exact zUp_eq _ _ _ _
                clear em85
                refine zw_7 zr_14_93 rfl ?_
                refine zw_3 zr_14_94 rfl ?_
                refine zw_38 zr_14_95 (by omega) ?_
                refine zw_C zr_14_96 (Or.inl rfl) zm_8 rfl rfl ⟨Nat.le_of_ble_eq_true rfl, Nat.le_of_ble_eq_true rfl, Nat.le_of_ble_eq_true rfl, rfl, by decide⟩ (by omega) (P := (fun v m' => zW E (d) 14 99 [(2, 45), (0, f1), (0, i5), (0, p8)] (if v.1 = 9 then [] else v :: []) m' Q)) ?_ (fun _ _ h => h)
                generalize hQ1 : (fun v m' => zW E (d) 14 99 [(2, 45), (0, f1), (0, i5), (0, p8)] (if v.1 = 9 then [] else v :: []) m' Q) = Q1
                show zW E (d - 1) 8 0 [(2, 45), (0, (-i5))] [] m85 Q1
                refine zw_7 zr_8_0 rfl ?_
                obtain ⟨f86, ef86⟩ : ∃ v, m85 45 8 = v := ⟨_, rfl⟩
                have bf86 := ib_45_8 hIm85
                rw [ef86] at bf86
                refine zw_46i zr_8_1 ef86 rfl rfl rfl ?_
                refine zw_push zr_8_4 ?_
                refine zw_41_3 zr_8_6 ?_ ?_
                · intro h87
                  refine zw_R zr_8_29 (by decide) zm_8 (v := (9, 0)) rfl ?_
                  rw [← hQ1]
                  show zW E (d) 14 99 [(2, 45), (0, f1), (0, i5), (0, p8)] [] m85 Q
                  refine zw_42 zr_14_99 ?_
                  refine zw_7 zr_14_120 rfl ?_
                  refine zw_3 zr_14_121 rfl ?_
                  refine zw_3 zr_14_122 rfl ?_
                  refine zw_C zr_14_123 (Or.inl rfl) zm_11 rfl rfl ⟨Nat.le_of_ble_eq_true rfl, Nat.le_of_ble_eq_true rfl, Nat.le_of_ble_eq_true rfl, rfl, by decide⟩ (by omega) (th_11 (d := d - 1) (by omega) hIm85 (a0 := f1) (a1 := p8)      (by omega) (by omega) ) ?_
                  rintro _ m88 ⟨rfl, hIm88, gm88⟩
                  have hFm88 : zFr W_14 m0 m88 := hFm85.trans gm88 rfl
                  have km88_45_7 : m88 45 7 = g0 := (gm88 45 7 rfl).trans km85_45_7
                  have km88_45_6 : m88 45 6 = (p8 + 1) := (gm88 45 6 rfl).trans km85_45_6
                  show zW E (d) 14 126 [(2, 45), (0, f1), (0, i5), (0, p8)] [] m88 Q
                  refine zw_R zr_14_126 (by decide) zm_14 (v := (9, 0)) rfl ?_
                  rw [← hQ]; exact ⟨rfl, hIm88, hFm88, by omega⟩
                · intro h90
                  refine zw_7 zr_8_9 rfl ?_
                  refine zw_46r (s := 48) zr_8_10 rfl rfl rfl rfl ?_
                  refine zw_7 zr_8_13 rfl ?_
                  refine zw_46i zr_8_14 ef86 rfl rfl rfl ?_
                  refine zw_3 zr_8_17 rfl ?_
                  refine zw_49 (c := 48) (len := 50) zr_8_18 rfl rfl (by omega) (by omega) ?_
                  intro m91 em91
                  have hIm91 : zInv m91 := by rw [em91]; exact hIm85.any (by omega) rfl (by decide) (by decide)
                  have hFm91 : zFr W_14 m0 m91 := by rw [em91]; exact hFm85.any rfl
                  have km91_45_7 : m91 45 7 = g0 := by rw [em91, zUp_ne (by omega)]; exact km85_45_7
                  have km91_45_6 : m91 45 6 = (p8 + 1) := by rw [em91, zUp_ne (by omega)]; exact km85_45_6
                  have km91_45_8 : m91 45 8 = f86 := by rw [em91, zUp_ne (by omega)]; exact ef86
                  clear em91
                  refine zw_7 zr_8_19 rfl ?_
                  refine zw_43 zr_8_20 rfl ?_
                  refine zw_46i zr_8_21 km91_45_8 rfl rfl rfl ?_
                  refine zw_push zr_8_24 ?_
                  refine zw_16 zr_8_25 (by omega) ?_
                  refine zw_47 (c := 45) zr_8_26 rfl ⟨rfl, by decide, rfl⟩ ?_
                  intro m92 em92
                  have hIm92 : zInv m92 := by rw [em92]; exact hIm91.bd (r := 45) (k := 8) (lo := 0) (hi := 50) rfl (by omega) (by decide) (by decide) (by decide)
                  have hFm92 : zFr W_14 m0 m92 := by rw [em92]; exact hFm91.up rfl
                  have km92_45_7 : m92 45 7 = g0 := by rw [em92, zUp_ne (by omega)]; exact km91_45_7
                  have km92_45_6 : m92 45 6 = (p8 + 1) := by rw [em92, zUp_ne (by omega)]; exact km91_45_6
                  have km92_45_8 : m92 45 8 = (f86 + 1) := by rw [em92]; exact zUp_eq _ _ _ _
                  clear em92
                  refine zw_R zr_8_29 (by decide) zm_8 (v := (9, 0)) rfl ?_
                  rw [← hQ1]
                  show zW E (d) 14 99 [(2, 45), (0, f1), (0, i5), (0, p8)] [] m92 Q
                  refine zw_42 zr_14_99 ?_
                  refine zw_7 zr_14_120 rfl ?_
                  refine zw_3 zr_14_121 rfl ?_
                  refine zw_3 zr_14_122 rfl ?_
                  refine zw_C zr_14_123 (Or.inl rfl) zm_11 rfl rfl ⟨Nat.le_of_ble_eq_true rfl, Nat.le_of_ble_eq_true rfl, Nat.le_of_ble_eq_true rfl, rfl, by decide⟩ (by omega) (th_11 (d := d - 1) (by omega) hIm92 (a0 := f1) (a1 := p8)      (by omega) (by omega) ) ?_
                  rintro _ m93 ⟨rfl, hIm93, gm93⟩
                  have hFm93 : zFr W_14 m0 m93 := hFm92.trans gm93 rfl
                  have km93_45_7 : m93 45 7 = g0 := (gm93 45 7 rfl).trans km92_45_7
                  have km93_45_6 : m93 45 6 = (p8 + 1) := (gm93 45 6 rfl).trans km92_45_6
                  show zW E (d) 14 126 [(2, 45), (0, f1), (0, i5), (0, p8)] [] m93 Q
                  refine zw_R zr_14_126 (by decide) zm_14 (v := (9, 0)) rfl ?_
                  rw [← hQ]; exact ⟨rfl, hIm93, hFm93, by omega⟩
            by_cases h95 : i5 = 121
            · refine zw_112 (off := 67) (t := 68) zr_10_1 (by rw [h95]; rfl) rfl ?_
              refine zw_push zr_10_68 ?_
              refine zw_R zr_10_69 (by decide) zm_10 (v := (0, 4)) rfl ?_
              rw [← hQ1]
              show zW E (d) 14 79 [(2, 45), (0, f1), (0, i5), (0, p8)] [(0, 4)] m7 Q
              refine zw_push zr_14_79 ?_
              refine zw_41_1 zr_14_80 ?_ ?_
              · intro h96; omega
              · intro h97
                refine zw_7 zr_14_83 rfl ?_
                refine zw_43 zr_14_84 rfl ?_
                refine zw_46i zr_14_85 km7_45_6 rfl rfl rfl ?_
                refine zw_push zr_14_88 ?_
                refine zw_16 zr_14_89 (by omega) ?_
                refine zw_47 (c := 45) zr_14_90 rfl ⟨rfl, by decide, rfl⟩ ?_
                intro m98 em98
                have hIm98 : zInv m98 := by rw [em98]; exact hIm7.bd (r := 45) (k := 6) (lo := 0) (hi := 50) rfl (by omega) (by decide) (by decide) (by decide)
                have hFm98 : zFr W_14 m0 m98 := by rw [em98]; exact hFm7.up rfl
                have km98_45_7 : m98 45 7 = g0 := by rw [em98, zUp_ne (by omega)]; exact km7_45_7
                have km98_45_6 : m98 45 6 = (p8 + 1) := by rw [em98]; exact zUp_eq _ _ _ _
                clear em98
                refine zw_7 zr_14_93 rfl ?_
                refine zw_3 zr_14_94 rfl ?_
                refine zw_38 zr_14_95 (by omega) ?_
                refine zw_C zr_14_96 (Or.inl rfl) zm_8 rfl rfl ⟨Nat.le_of_ble_eq_true rfl, Nat.le_of_ble_eq_true rfl, Nat.le_of_ble_eq_true rfl, rfl, by decide⟩ (by omega) (P := (fun v m' => zW E (d) 14 99 [(2, 45), (0, f1), (0, i5), (0, p8)] (if v.1 = 9 then [] else v :: []) m' Q)) ?_ (fun _ _ h => h)
                generalize hQ1 : (fun v m' => zW E (d) 14 99 [(2, 45), (0, f1), (0, i5), (0, p8)] (if v.1 = 9 then [] else v :: []) m' Q) = Q1
                show zW E (d - 1) 8 0 [(2, 45), (0, (-i5))] [] m98 Q1
                refine zw_7 zr_8_0 rfl ?_
                obtain ⟨f99, ef99⟩ : ∃ v, m98 45 8 = v := ⟨_, rfl⟩
                have bf99 := ib_45_8 hIm98
                rw [ef99] at bf99
                refine zw_46i zr_8_1 ef99 rfl rfl rfl ?_
                refine zw_push zr_8_4 ?_
                refine zw_41_3 zr_8_6 ?_ ?_
                · intro h100
                  refine zw_R zr_8_29 (by decide) zm_8 (v := (9, 0)) rfl ?_
                  rw [← hQ1]
                  show zW E (d) 14 99 [(2, 45), (0, f1), (0, i5), (0, p8)] [] m98 Q
                  refine zw_42 zr_14_99 ?_
                  refine zw_7 zr_14_120 rfl ?_
                  refine zw_3 zr_14_121 rfl ?_
                  refine zw_3 zr_14_122 rfl ?_
                  refine zw_C zr_14_123 (Or.inl rfl) zm_11 rfl rfl ⟨Nat.le_of_ble_eq_true rfl, Nat.le_of_ble_eq_true rfl, Nat.le_of_ble_eq_true rfl, rfl, by decide⟩ (by omega) (th_11 (d := d - 1) (by omega) hIm98 (a0 := f1) (a1 := p8)      (by omega) (by omega) ) ?_
                  rintro _ m101 ⟨rfl, hIm101, gm101⟩
                  have hFm101 : zFr W_14 m0 m101 := hFm98.trans gm101 rfl
                  have km101_45_7 : m101 45 7 = g0 := (gm101 45 7 rfl).trans km98_45_7
                  have km101_45_6 : m101 45 6 = (p8 + 1) := (gm101 45 6 rfl).trans km98_45_6
                  show zW E (d) 14 126 [(2, 45), (0, f1), (0, i5), (0, p8)] [] m101 Q
                  refine zw_R zr_14_126 (by decide) zm_14 (v := (9, 0)) rfl ?_
                  rw [← hQ]; exact ⟨rfl, hIm101, hFm101, by omega⟩
                · intro h103
                  refine zw_7 zr_8_9 rfl ?_
                  refine zw_46r (s := 48) zr_8_10 rfl rfl rfl rfl ?_
                  refine zw_7 zr_8_13 rfl ?_
                  refine zw_46i zr_8_14 ef99 rfl rfl rfl ?_
                  refine zw_3 zr_8_17 rfl ?_
                  refine zw_49 (c := 48) (len := 50) zr_8_18 rfl rfl (by omega) (by omega) ?_
                  intro m104 em104
                  have hIm104 : zInv m104 := by rw [em104]; exact hIm98.any (by omega) rfl (by decide) (by decide)
                  have hFm104 : zFr W_14 m0 m104 := by rw [em104]; exact hFm98.any rfl
                  have km104_45_7 : m104 45 7 = g0 := by rw [em104, zUp_ne (by omega)]; exact km98_45_7
                  have km104_45_6 : m104 45 6 = (p8 + 1) := by rw [em104, zUp_ne (by omega)]; exact km98_45_6
                  have km104_45_8 : m104 45 8 = f99 := by rw [em104, zUp_ne (by omega)]; exact ef99
                  clear em104
                  refine zw_7 zr_8_19 rfl ?_
                  refine zw_43 zr_8_20 rfl ?_
                  refine zw_46i zr_8_21 km104_45_8 rfl rfl rfl ?_
                  refine zw_push zr_8_24 ?_
                  refine zw_16 zr_8_25 (by omega) ?_
                  refine zw_47 (c := 45) zr_8_26 rfl ⟨rfl, by decide, rfl⟩ ?_
                  intro m105 em105
                  have hIm105 : zInv m105 := by rw [em105]; exact hIm104.bd (r := 45) (k := 8) (lo := 0) (hi := 50) rfl (by omega) (by decide) (by decide) (by decide)
                  have hFm105 : zFr W_14 m0 m105 := by rw [em105]; exact hFm104.up rfl
                  have km105_45_7 : m105 45 7 = g0 := by rw [em105, zUp_ne (by omega)]; exact km104_45_7
                  have km105_45_6 : m105 45 6 = (p8 + 1) := by rw [em105, zUp_ne (by omega)]; exact km104_45_6
                  have km105_45_8 : m105 45 8 = (f99 + 1) := by rw [em105]; exact zUp_eq _ _ _ _
                  clear em105
                  refine zw_R zr_8_29 (by decide) zm_8 (v := (9, 0)) rfl ?_
                  rw [← hQ1]
                  show zW E (d) 14 99 [(2, 45), (0, f1), (0, i5), (0, p8)] [] m105 Q
                  refine zw_42 zr_14_99 ?_
                  refine zw_7 zr_14_120 rfl ?_
                  refine zw_3 zr_14_121 rfl ?_
                  refine zw_3 zr_14_122 rfl ?_
                  refine zw_C zr_14_123 (Or.inl rfl) zm_11 rfl rfl ⟨Nat.le_of_ble_eq_true rfl, Nat.le_of_ble_eq_true rfl, Nat.le_of_ble_eq_true rfl, rfl, by decide⟩ (by omega) (th_11 (d := d - 1) (by omega) hIm105 (a0 := f1) (a1 := p8)      (by omega) (by omega) ) ?_
                  rintro _ m106 ⟨rfl, hIm106, gm106⟩
                  have hFm106 : zFr W_14 m0 m106 := hFm105.trans gm106 rfl
                  have km106_45_7 : m106 45 7 = g0 := (gm106 45 7 rfl).trans km105_45_7
                  have km106_45_6 : m106 45 6 = (p8 + 1) := (gm106 45 6 rfl).trans km105_45_6
                  show zW E (d) 14 126 [(2, 45), (0, f1), (0, i5), (0, p8)] [] m106 Q
                  refine zw_R zr_14_126 (by decide) zm_14 (v := (9, 0)) rfl ?_
                  rw [← hQ]; exact ⟨rfl, hIm106, hFm106, by omega⟩
            refine zw_112 (off := 71) (t := 72) zr_10_1 (zlsw_df (by simp; omega)) rfl ?_
            refine zw_push zr_10_72 ?_
            refine zw_R zr_10_73 (by decide) zm_10 (v := (0, (-1))) rfl ?_
            rw [← hQ1]
            show zW E (d) 14 79 [(2, 45), (0, f1), (0, i5), (0, p8)] [(0, (-1))] m7 Q
            refine zw_push zr_14_79 ?_
            refine zw_41_1 zr_14_80 ?_ ?_
            · intro h108
              refine zw_3 zr_14_102 rfl ?_
              refine zw_push zr_14_103 ?_
              refine zw_41_4 zr_14_105 ?_ ?_
              · intro h109
                refine zw_7 zr_14_115 rfl ?_
                refine zw_push zr_14_116 ?_
                refine zw_C zr_14_117 (Or.inl rfl) zm_5 rfl rfl ⟨Nat.le_of_ble_eq_true rfl, Nat.le_of_ble_eq_true rfl, Nat.le_of_ble_eq_true rfl, rfl, by decide⟩ (by omega) (P := (fun v m' => zW E (d) 14 120 [(2, 45), (0, f1), (0, i5), (0, p8)] (if v.1 = 9 then [] else v :: []) m' Q)) ?_ (fun _ _ h => h)
                generalize hQ1 : (fun v m' => zW E (d) 14 120 [(2, 45), (0, f1), (0, i5), (0, p8)] (if v.1 = 9 then [] else v :: []) m' Q) = Q1
                show zW E (d - 1) 5 0 [(2, 45), (0, 1)] [] m7 Q1
                refine zw_7 zr_5_0 rfl ?_
                obtain ⟨f110, ef110⟩ : ∃ v, m7 45 1 = v := ⟨_, rfl⟩
                have bf110 := hIm7.fi (c := 45) (k := 1) rfl
                rw [ef110] at bf110
                refine zw_46i zr_5_1 ef110 rfl rfl rfl ?_
                refine zw_push zr_5_4 ?_
                refine zw_41_4 zr_5_5 ?_ ?_
                · intro h111
                  refine zw_R zr_5_21 (by decide) zm_5 (v := (9, 0)) rfl ?_
                  rw [← hQ1]
                  show zW E (d) 14 120 [(2, 45), (0, f1), (0, i5), (0, p8)] [] m7 Q
                  refine zw_7 zr_14_120 rfl ?_
                  refine zw_3 zr_14_121 rfl ?_
                  refine zw_3 zr_14_122 rfl ?_
                  refine zw_C zr_14_123 (Or.inl rfl) zm_11 rfl rfl ⟨Nat.le_of_ble_eq_true rfl, Nat.le_of_ble_eq_true rfl, Nat.le_of_ble_eq_true rfl, rfl, by decide⟩ (by omega) (th_11 (d := d - 1) (by omega) hIm7 (a0 := f1) (a1 := p8)      (by omega) (by omega) ) ?_
                  rintro _ m112 ⟨rfl, hIm112, gm112⟩
                  have hFm112 : zFr W_14 m0 m112 := hFm7.trans gm112 rfl
                  have km112_45_7 : m112 45 7 = g0 := (gm112 45 7 rfl).trans km7_45_7
                  have km112_45_6 : m112 45 6 = p8 := (gm112 45 6 rfl).trans km7_45_6
                  have km112_45_1 : m112 45 1 = f110 := (gm112 45 1 rfl).trans ef110
                  show zW E (d) 14 126 [(2, 45), (0, f1), (0, i5), (0, p8)] [] m112 Q
                  refine zw_R zr_14_126 (by decide) zm_14 (v := (9, 0)) rfl ?_
                  rw [← hQ]; exact ⟨rfl, hIm112, hFm112, by omega⟩
                · intro h114
                  refine zw_7 zr_5_8 rfl ?_
                  refine zw_7 zr_5_9 rfl ?_
                  refine zw_46i zr_5_10 km7_45_6 rfl rfl rfl ?_
                  refine zw_push zr_5_13 ?_
                  refine zw_18 zr_5_15 (by omega) ?_
                  refine zw_3 zr_5_16 rfl ?_
                  refine zw_16 zr_5_17 (by omega) ?_
                  refine zw_47 (c := 45) zr_5_18 rfl ⟨rfl, by decide, rfl⟩ ?_
                  intro m115 em115
                  have hIm115 : zInv m115 := by rw [em115]; exact hIm7.any (by omega) rfl (by decide) (by decide)
                  have hFm115 : zFr W_14 m0 m115 := by rw [em115]; exact hFm7.up rfl
                  have km115_45_7 : m115 45 7 = g0 := by rw [em115, zUp_ne (by omega)]; exact km7_45_7
                  have km115_45_6 : m115 45 6 = p8 := by rw [em115, zUp_ne (by omega)]; exact km7_45_6
                  have km115_45_1 : m115 45 1 = ((p8 * 10) + 1) := by rw [em115]; exact zUp_eq _ _ _ _
                  clear em115
                  refine zw_R zr_5_21 (by decide) zm_5 (v := (9, 0)) rfl ?_
                  rw [← hQ1]
                  show zW E (d) 14 120 [(2, 45), (0, f1), (0, i5), (0, p8)] [] m115 Q
                  refine zw_7 zr_14_120 rfl ?_
                  refine zw_3 zr_14_121 rfl ?_
                  refine zw_3 zr_14_122 rfl ?_
                  refine zw_C zr_14_123 (Or.inl rfl) zm_11 rfl rfl ⟨Nat.le_of_ble_eq_true rfl, Nat.le_of_ble_eq_true rfl, Nat.le_of_ble_eq_true rfl, rfl, by decide⟩ (by omega) (th_11 (d := d - 1) (by omega) hIm115 (a0 := f1) (a1 := p8)      (by omega) (by omega) ) ?_
                  rintro _ m116 ⟨rfl, hIm116, gm116⟩
                  have hFm116 : zFr W_14 m0 m116 := hFm115.trans gm116 rfl
                  have km116_45_7 : m116 45 7 = g0 := (gm116 45 7 rfl).trans km115_45_7
                  have km116_45_6 : m116 45 6 = p8 := (gm116 45 6 rfl).trans km115_45_6
                  have km116_45_1 : m116 45 1 = ((p8 * 10) + 1) := (gm116 45 1 rfl).trans km115_45_1
                  show zW E (d) 14 126 [(2, 45), (0, f1), (0, i5), (0, p8)] [] m116 Q
                  refine zw_R zr_14_126 (by decide) zm_14 (v := (9, 0)) rfl ?_
                  rw [← hQ]; exact ⟨rfl, hIm116, hFm116, by omega⟩
              · intro h118; omega
            · intro h119; omega
          · intro h120
            refine zw_7 zr_14_68 rfl ?_
            refine zw_C zr_14_69 (Or.inl rfl) zm_9 rfl rfl ⟨Nat.le_of_ble_eq_true rfl, Nat.le_of_ble_eq_true rfl, Nat.le_of_ble_eq_true rfl, rfl, by decide⟩ (by omega) (th_9 (d := d - 1) (by omega) hIm7        ) ?_
            rintro _ m121 ⟨rfl, hIm121, gm121⟩
            have hFm121 : zFr W_14 m0 m121 := hFm7.trans gm121 rfl
            have km121_45_7 : m121 45 7 = g0 := (gm121 45 7 rfl).trans km7_45_7
            show zW E (d) 14 72 [(2, 45), (0, f1), (0, i5), (0, p8)] [] m121 Q
            refine zw_42 zr_14_72 ?_
            refine zw_7 zr_14_120 rfl ?_
            refine zw_3 zr_14_121 rfl ?_
            refine zw_3 zr_14_122 rfl ?_
            refine zw_C zr_14_123 (Or.inl rfl) zm_11 rfl rfl ⟨Nat.le_of_ble_eq_true rfl, Nat.le_of_ble_eq_true rfl, Nat.le_of_ble_eq_true rfl, rfl, by decide⟩ (by omega) (th_11 (d := d - 1) (by omega) hIm121 (a0 := f1) (a1 := p8)      (by omega) (by omega) ) ?_
            rintro _ m122 ⟨rfl, hIm122, gm122⟩
            have hFm122 : zFr W_14 m0 m122 := hFm121.trans gm122 rfl
            have km122_45_7 : m122 45 7 = g0 := (gm122 45 7 rfl).trans km121_45_7
            show zW E (d) 14 126 [(2, 45), (0, f1), (0, i5), (0, p8)] [] m122 Q
            refine zw_R zr_14_126 (by decide) zm_14 (v := (9, 0)) rfl ?_
            rw [← hQ]; exact ⟨rfl, hIm122, hFm122, by omega⟩
      · intro h124
        refine zw_3 zr_14_18 rfl ?_
        refine zw_push zr_14_19 ?_
        refine zw_41_1 zr_14_21 ?_ ?_
        · intro h125
          refine zw_7 zr_14_30 rfl ?_
          refine zw_43 zr_14_31 rfl ?_
          refine zw_46i zr_14_32 km7_45_6 rfl rfl rfl ?_
          refine zw_push zr_14_35 ?_
          refine zw_16 zr_14_36 (by omega) ?_
          refine zw_47 (c := 45) zr_14_37 rfl ⟨rfl, by decide, rfl⟩ ?_
          intro m126 em126
          have hIm126 : zInv m126 := by rw [em126]; exact hIm7.bd (r := 45) (k := 6) (lo := 0) (hi := 50) rfl (by omega) (by decide) (by decide) (by decide)
          have hFm126 : zFr W_14 m0 m126 := by rw [em126]; exact hFm7.up rfl
          have km126_45_7 : m126 45 7 = g0 := by rw [em126, zUp_ne (by omega)]; exact km7_45_7
          have km126_45_6 : m126 45 6 = (p8 + 1) := by rw [em126]; exact zUp_eq _ _ _ _
          clear em126
          refine zw_7 zr_14_40 rfl ?_
          refine zw_C zr_14_41 (Or.inl rfl) zm_6 rfl rfl ⟨Nat.le_of_ble_eq_true rfl, Nat.le_of_ble_eq_true rfl, Nat.le_of_ble_eq_true rfl, rfl, by decide⟩ (by omega) (th_6 (d := d - 1) (by omega) hIm126        ) ?_
          rintro _ m127 ⟨r128, rfl, hr128a, hr128b, hIm127, gm127, po0_r128⟩
          have hFm127 : zFr W_14 m0 m127 := hFm126.trans gm127 rfl
          have km127_45_7 : m127 45 7 = g0 := (gm127 45 7 rfl).trans km126_45_7
          obtain ⟨f129, ef129⟩ : ∃ v, m127 45 6 = v := ⟨_, rfl⟩
          have bf129 := ib_45_6 hIm127
          rw [ef129] at bf129
          show zW E (d) 14 44 [(2, 45), (0, f1), (0, i5), (0, i6)] [(0, r128)] m127 Q
          refine zw_9 (L' := [(2, 45), (0, f1), (0, r128), (0, i6)]) zr_14_44 (Nat.le_of_ble_eq_true rfl) rfl ?_
          refine zw_15 (c := 1) (L' := [(2, 45), (0, f1), (0, r128), (0, (i6 + 1))]) zr_14_45 rfl (by decide) (by omega) rfl ?_
          refine zw_42 zr_14_48 ?_
          exact zw_less (L := [(2, 45), (0, f1), (0, r128), (0, (i6 + 1))]) ⟨Or.inr rfl, Or.inr rfl, Or.inr rfl, Or.inr rfl, trivial⟩ (ihlp12_9 (r128) ((i6 + 1)) (f129) m127 hIm127 hFm127  km127_45_7 ef129 (by omega) (by omega) (by omega) (by omega) (by omega) (by omega) (by omega) (by omega))
        · intro h130
          refine zw_3 zr_14_24 rfl ?_
          refine zw_push zr_14_25 ?_
          refine zw_41_4 zr_14_27 ?_ ?_
          · intro h131
            refine zw_7 zr_14_51 rfl ?_
            refine zw_46i zr_14_52 km7_45_6 rfl rfl rfl ?_
            refine zw_9 (L' := [(2, 45), (0, f1), (0, i5), (0, p8)]) zr_14_55 (Nat.le_of_ble_eq_true rfl) rfl ?_
            refine zw_3 zr_14_56 rfl ?_
            refine zw_push zr_14_57 ?_
            refine zw_41_0 zr_14_59 ?_ ?_
            · intro h132
              refine zw_3 zr_14_75 rfl ?_
              refine zw_C zr_14_76 (Or.inr rfl) zm_10 rfl rfl ⟨Nat.le_of_ble_eq_true rfl, Nat.le_of_ble_eq_true rfl, Nat.le_of_ble_eq_true rfl, rfl, by decide⟩ (by omega) (P := (fun v m' => zW E (d) 14 79 [(2, 45), (0, f1), (0, i5), (0, p8)] (if v.1 = 9 then [] else v :: []) m' Q)) ?_ (fun _ _ h => h)
              generalize hQ1 : (fun v m' => zW E (d) 14 79 [(2, 45), (0, f1), (0, i5), (0, p8)] (if v.1 = 9 then [] else v :: []) m' Q) = Q1
              show zW E (d - 1) 10 0 [(0, i5)] [] m7 Q1
              refine zw_3 zr_10_0 rfl ?_
              refine zw_112 (off := 71) (t := 72) zr_10_1 (zlsw_df (by simp; omega)) rfl ?_
              refine zw_push zr_10_72 ?_
              refine zw_R zr_10_73 (by decide) zm_10 (v := (0, (-1))) rfl ?_
              rw [← hQ1]
              show zW E (d) 14 79 [(2, 45), (0, f1), (0, i5), (0, p8)] [(0, (-1))] m7 Q
              refine zw_push zr_14_79 ?_
              refine zw_41_1 zr_14_80 ?_ ?_
              · intro h133
                refine zw_3 zr_14_102 rfl ?_
                refine zw_push zr_14_103 ?_
                refine zw_41_4 zr_14_105 ?_ ?_
                · intro h134
                  refine zw_7 zr_14_115 rfl ?_
                  refine zw_push zr_14_116 ?_
                  refine zw_C zr_14_117 (Or.inl rfl) zm_5 rfl rfl ⟨Nat.le_of_ble_eq_true rfl, Nat.le_of_ble_eq_true rfl, Nat.le_of_ble_eq_true rfl, rfl, by decide⟩ (by omega) (P := (fun v m' => zW E (d) 14 120 [(2, 45), (0, f1), (0, i5), (0, p8)] (if v.1 = 9 then [] else v :: []) m' Q)) ?_ (fun _ _ h => h)
                  generalize hQ1 : (fun v m' => zW E (d) 14 120 [(2, 45), (0, f1), (0, i5), (0, p8)] (if v.1 = 9 then [] else v :: []) m' Q) = Q1
                  show zW E (d - 1) 5 0 [(2, 45), (0, 1)] [] m7 Q1
                  refine zw_7 zr_5_0 rfl ?_
                  obtain ⟨f135, ef135⟩ : ∃ v, m7 45 1 = v := ⟨_, rfl⟩
                  have bf135 := hIm7.fi (c := 45) (k := 1) rfl
                  rw [ef135] at bf135
                  refine zw_46i zr_5_1 ef135 rfl rfl rfl ?_
                  refine zw_push zr_5_4 ?_
                  refine zw_41_4 zr_5_5 ?_ ?_
                  · intro h136
                    refine zw_R zr_5_21 (by decide) zm_5 (v := (9, 0)) rfl ?_
                    rw [← hQ1]
                    show zW E (d) 14 120 [(2, 45), (0, f1), (0, i5), (0, p8)] [] m7 Q
                    refine zw_7 zr_14_120 rfl ?_
                    refine zw_3 zr_14_121 rfl ?_
                    refine zw_3 zr_14_122 rfl ?_
                    refine zw_C zr_14_123 (Or.inl rfl) zm_11 rfl rfl ⟨Nat.le_of_ble_eq_true rfl, Nat.le_of_ble_eq_true rfl, Nat.le_of_ble_eq_true rfl, rfl, by decide⟩ (by omega) (th_11 (d := d - 1) (by omega) hIm7 (a0 := f1) (a1 := p8)      (by omega) (by omega) ) ?_
                    rintro _ m137 ⟨rfl, hIm137, gm137⟩
                    have hFm137 : zFr W_14 m0 m137 := hFm7.trans gm137 rfl
                    have km137_45_7 : m137 45 7 = g0 := (gm137 45 7 rfl).trans km7_45_7
                    have km137_45_6 : m137 45 6 = p8 := (gm137 45 6 rfl).trans km7_45_6
                    have km137_45_1 : m137 45 1 = f135 := (gm137 45 1 rfl).trans ef135
                    show zW E (d) 14 126 [(2, 45), (0, f1), (0, i5), (0, p8)] [] m137 Q
                    refine zw_R zr_14_126 (by decide) zm_14 (v := (9, 0)) rfl ?_
                    rw [← hQ]; exact ⟨rfl, hIm137, hFm137, by omega⟩
                  · intro h139
                    refine zw_7 zr_5_8 rfl ?_
                    refine zw_7 zr_5_9 rfl ?_
                    refine zw_46i zr_5_10 km7_45_6 rfl rfl rfl ?_
                    refine zw_push zr_5_13 ?_
                    refine zw_18 zr_5_15 (by omega) ?_
                    refine zw_3 zr_5_16 rfl ?_
                    refine zw_16 zr_5_17 (by omega) ?_
                    refine zw_47 (c := 45) zr_5_18 rfl ⟨rfl, by decide, rfl⟩ ?_
                    intro m140 em140
                    have hIm140 : zInv m140 := by rw [em140]; exact hIm7.any (by omega) rfl (by decide) (by decide)
                    have hFm140 : zFr W_14 m0 m140 := by rw [em140]; exact hFm7.up rfl
                    have km140_45_7 : m140 45 7 = g0 := by rw [em140, zUp_ne (by omega)]; exact km7_45_7
                    have km140_45_6 : m140 45 6 = p8 := by rw [em140, zUp_ne (by omega)]; exact km7_45_6
                    have km140_45_1 : m140 45 1 = ((p8 * 10) + 1) := by rw [em140]; exact zUp_eq _ _ _ _
                    clear em140
                    refine zw_R zr_5_21 (by decide) zm_5 (v := (9, 0)) rfl ?_
                    rw [← hQ1]
                    show zW E (d) 14 120 [(2, 45), (0, f1), (0, i5), (0, p8)] [] m140 Q
                    refine zw_7 zr_14_120 rfl ?_
                    refine zw_3 zr_14_121 rfl ?_
                    refine zw_3 zr_14_122 rfl ?_
                    refine zw_C zr_14_123 (Or.inl rfl) zm_11 rfl rfl ⟨Nat.le_of_ble_eq_true rfl, Nat.le_of_ble_eq_true rfl, Nat.le_of_ble_eq_true rfl, rfl, by decide⟩ (by omega) (th_11 (d := d - 1) (by omega) hIm140 (a0 := f1) (a1 := p8)      (by omega) (by omega) ) ?_
                    rintro _ m141 ⟨rfl, hIm141, gm141⟩
                    have hFm141 : zFr W_14 m0 m141 := hFm140.trans gm141 rfl
                    have km141_45_7 : m141 45 7 = g0 := (gm141 45 7 rfl).trans km140_45_7
                    have km141_45_6 : m141 45 6 = p8 := (gm141 45 6 rfl).trans km140_45_6
                    have km141_45_1 : m141 45 1 = ((p8 * 10) + 1) := (gm141 45 1 rfl).trans km140_45_1
                    show zW E (d) 14 126 [(2, 45), (0, f1), (0, i5), (0, p8)] [] m141 Q
                    refine zw_R zr_14_126 (by decide) zm_14 (v := (9, 0)) rfl ?_
                    rw [← hQ]; exact ⟨rfl, hIm141, hFm141, by omega⟩
                · intro h143
                  refine zw_7 zr_14_108 rfl ?_
                  refine zw_C zr_14_109 (Or.inl rfl) zm_12 rfl rfl ⟨Nat.le_of_ble_eq_true rfl, Nat.le_of_ble_eq_true rfl, Nat.le_of_ble_eq_true rfl, rfl, by decide⟩ (by omega) (ih12 m7 (g0) (p8) (by omega) hIm7 km7_45_7 km7_45_6   (by omega)) ?_
                  rintro _ m144 ⟨rfl, hIm144, gm144, po0_m144⟩
                  have hFm144 : zFr W_14 m0 m144 := hFm7.trans gm144 rfl
                  show zW E (d) 14 112 [(2, 45), (0, f1), (0, i5), (0, p8)] [] m144 Q
                  refine zw_42 zr_14_112 ?_
                  refine zw_7 zr_14_120 rfl ?_
                  refine zw_3 zr_14_121 rfl ?_
                  refine zw_3 zr_14_122 rfl ?_
                  refine zw_C zr_14_123 (Or.inl rfl) zm_11 rfl rfl ⟨Nat.le_of_ble_eq_true rfl, Nat.le_of_ble_eq_true rfl, Nat.le_of_ble_eq_true rfl, rfl, by decide⟩ (by omega) (th_11 (d := d - 1) (by omega) hIm144 (a0 := f1) (a1 := p8)      (by omega) (by omega) ) ?_
                  rintro _ m145 ⟨rfl, hIm145, gm145⟩
                  have hFm145 : zFr W_14 m0 m145 := hFm144.trans gm145 rfl
                  have km145_45_7 : m145 45 7 = g0 := (gm145 45 7 rfl).trans po0_m144
                  show zW E (d) 14 126 [(2, 45), (0, f1), (0, i5), (0, p8)] [] m145 Q
                  refine zw_R zr_14_126 (by decide) zm_14 (v := (9, 0)) rfl ?_
                  rw [← hQ]; exact ⟨rfl, hIm145, hFm145, by omega⟩
              · intro h147; omega
            · intro h148
              refine zw_3 zr_14_62 rfl ?_
              refine zw_push zr_14_63 ?_
              refine zw_41_2 zr_14_65 ?_ ?_
              · intro h149
                refine zw_3 zr_14_75 rfl ?_
                refine zw_C zr_14_76 (Or.inr rfl) zm_10 rfl rfl ⟨Nat.le_of_ble_eq_true rfl, Nat.le_of_ble_eq_true rfl, Nat.le_of_ble_eq_true rfl, rfl, by decide⟩ (by omega) (P := (fun v m' => zW E (d) 14 79 [(2, 45), (0, f1), (0, i5), (0, p8)] (if v.1 = 9 then [] else v :: []) m' Q)) ?_ (fun _ _ h => h)
                generalize hQ1 : (fun v m' => zW E (d) 14 79 [(2, 45), (0, f1), (0, i5), (0, p8)] (if v.1 = 9 then [] else v :: []) m' Q) = Q1
                show zW E (d - 1) 10 0 [(0, i5)] [] m7 Q1
                refine zw_3 zr_10_0 rfl ?_
                by_cases h150 : i5 = 101
                · refine zw_112 (off := 63) (t := 64) zr_10_1 (by rw [h150]; rfl) rfl ?_
                  refine zw_push zr_10_64 ?_
                  refine zw_R zr_10_65 (by decide) zm_10 (v := (0, 2)) rfl ?_
                  rw [← hQ1]
                  show zW E (d) 14 79 [(2, 45), (0, f1), (0, i5), (0, p8)] [(0, 2)] m7 Q
                  refine zw_push zr_14_79 ?_
                  refine zw_41_1 zr_14_80 ?_ ?_
                  · intro h151; omega
                  · intro h152
                    refine zw_7 zr_14_83 rfl ?_
                    refine zw_43 zr_14_84 rfl ?_
                    refine zw_46i zr_14_85 km7_45_6 rfl rfl rfl ?_
                    refine zw_push zr_14_88 ?_
                    refine zw_16 zr_14_89 (by omega) ?_
                    refine zw_47 (c := 45) zr_14_90 rfl ⟨rfl, by decide, rfl⟩ ?_
                    intro m153 em153
                    have hIm153 : zInv m153 := by rw [em153]; exact hIm7.bd (r := 45) (k := 6) (lo := 0) (hi := 50) rfl (by omega) (by decide) (by decide) (by decide)
                    have hFm153 : zFr W_14 m0 m153 := by rw [em153]; exact hFm7.up rfl
                    have km153_45_7 : m153 45 7 = g0 := by rw [em153, zUp_ne (by omega)]; exact km7_45_7
                    have km153_45_6 : m153 45 6 = (p8 + 1) := by rw [em153]; exact zUp_eq _ _ _ _
                    clear em153
                    refine zw_7 zr_14_93 rfl ?_
                    refine zw_3 zr_14_94 rfl ?_
                    refine zw_38 zr_14_95 (by omega) ?_
                    refine zw_C zr_14_96 (Or.inl rfl) zm_8 rfl rfl ⟨Nat.le_of_ble_eq_true rfl, Nat.le_of_ble_eq_true rfl, Nat.le_of_ble_eq_true rfl, rfl, by decide⟩ (by omega) (P := (fun v m' => zW E (d) 14 99 [(2, 45), (0, f1), (0, i5), (0, p8)] (if v.1 = 9 then [] else v :: []) m' Q)) ?_ (fun _ _ h => h)
                    generalize hQ1 : (fun v m' => zW E (d) 14 99 [(2, 45), (0, f1), (0, i5), (0, p8)] (if v.1 = 9 then [] else v :: []) m' Q) = Q1
                    show zW E (d - 1) 8 0 [(2, 45), (0, (-i5))] [] m153 Q1
                    refine zw_7 zr_8_0 rfl ?_
                    obtain ⟨f154, ef154⟩ : ∃ v, m153 45 8 = v := ⟨_, rfl⟩
                    have bf154 := ib_45_8 hIm153
                    rw [ef154] at bf154
                    refine zw_46i zr_8_1 ef154 rfl rfl rfl ?_
                    refine zw_push zr_8_4 ?_
                    refine zw_41_3 zr_8_6 ?_ ?_
                    · intro h155
                      refine zw_R zr_8_29 (by decide) zm_8 (v := (9, 0)) rfl ?_
                      rw [← hQ1]
                      show zW E (d) 14 99 [(2, 45), (0, f1), (0, i5), (0, p8)] [] m153 Q
                      refine zw_42 zr_14_99 ?_
                      refine zw_7 zr_14_120 rfl ?_
                      refine zw_3 zr_14_121 rfl ?_
                      refine zw_3 zr_14_122 rfl ?_
                      refine zw_C zr_14_123 (Or.inl rfl) zm_11 rfl rfl ⟨Nat.le_of_ble_eq_true rfl, Nat.le_of_ble_eq_true rfl, Nat.le_of_ble_eq_true rfl, rfl, by decide⟩ (by omega) (th_11 (d := d - 1) (by omega) hIm153 (a0 := f1) (a1 := p8)      (by omega) (by omega) ) ?_
                      rintro _ m156 ⟨rfl, hIm156, gm156⟩
                      have hFm156 : zFr W_14 m0 m156 := hFm153.trans gm156 rfl
                      have km156_45_7 : m156 45 7 = g0 := (gm156 45 7 rfl).trans km153_45_7
                      have km156_45_6 : m156 45 6 = (p8 + 1) := (gm156 45 6 rfl).trans km153_45_6
                      show zW E (d) 14 126 [(2, 45), (0, f1), (0, i5), (0, p8)] [] m156 Q
                      refine zw_R zr_14_126 (by decide) zm_14 (v := (9, 0)) rfl ?_
                      rw [← hQ]; exact ⟨rfl, hIm156, hFm156, by omega⟩
                    · intro h158
                      refine zw_7 zr_8_9 rfl ?_
                      refine zw_46r (s := 48) zr_8_10 rfl rfl rfl rfl ?_
                      refine zw_7 zr_8_13 rfl ?_
                      refine zw_46i zr_8_14 ef154 rfl rfl rfl ?_
                      refine zw_3 zr_8_17 rfl ?_
                      refine zw_49 (c := 48) (len := 50) zr_8_18 rfl rfl (by omega) (by omega) ?_
                      intro m159 em159
                      have hIm159 : zInv m159 := by rw [em159]; exact hIm153.any (by omega) rfl (by decide) (by decide)
                      have hFm159 : zFr W_14 m0 m159 := by rw [em159]; exact hFm153.any rfl
                      have km159_45_7 : m159 45 7 = g0 := by rw [em159, zUp_ne (by omega)]; exact km153_45_7
                      have km159_45_6 : m159 45 6 = (p8 + 1) := by rw [em159, zUp_ne (by omega)]; exact km153_45_6
                      have km159_45_8 : m159 45 8 = f154 := by rw [em159, zUp_ne (by omega)]; exact ef154
                      clear em159
                      refine zw_7 zr_8_19 rfl ?_
                      refine zw_43 zr_8_20 rfl ?_
                      refine zw_46i zr_8_21 km159_45_8 rfl rfl rfl ?_
                      refine zw_push zr_8_24 ?_
                      refine zw_16 zr_8_25 (by omega) ?_
                      refine zw_47 (c := 45) zr_8_26 rfl ⟨rfl, by decide, rfl⟩ ?_
                      intro m160 em160
                      have hIm160 : zInv m160 := by rw [em160]; exact hIm159.bd (r := 45) (k := 8) (lo := 0) (hi := 50) rfl (by omega) (by decide) (by decide) (by decide)
                      have hFm160 : zFr W_14 m0 m160 := by rw [em160]; exact hFm159.up rfl
                      have km160_45_7 : m160 45 7 = g0 := by rw [em160, zUp_ne (by omega)]; exact km159_45_7
                      have km160_45_6 : m160 45 6 = (p8 + 1) := by rw [em160, zUp_ne (by omega)]; exact km159_45_6
                      have km160_45_8 : m160 45 8 = (f154 + 1) := by rw [em160]; exact zUp_eq _ _ _ _
                      clear em160
                      refine zw_R zr_8_29 (by decide) zm_8 (v := (9, 0)) rfl ?_
                      rw [← hQ1]
                      show zW E (d) 14 99 [(2, 45), (0, f1), (0, i5), (0, p8)] [] m160 Q
                      refine zw_42 zr_14_99 ?_
                      refine zw_7 zr_14_120 rfl ?_
                      refine zw_3 zr_14_121 rfl ?_
                      refine zw_3 zr_14_122 rfl ?_
                      refine zw_C zr_14_123 (Or.inl rfl) zm_11 rfl rfl ⟨Nat.le_of_ble_eq_true rfl, Nat.le_of_ble_eq_true rfl, Nat.le_of_ble_eq_true rfl, rfl, by decide⟩ (by omega) (th_11 (d := d - 1) (by omega) hIm160 (a0 := f1) (a1 := p8)      (by omega) (by omega) ) ?_
                      rintro _ m161 ⟨rfl, hIm161, gm161⟩
                      have hFm161 : zFr W_14 m0 m161 := hFm160.trans gm161 rfl
                      have km161_45_7 : m161 45 7 = g0 := (gm161 45 7 rfl).trans km160_45_7
                      have km161_45_6 : m161 45 6 = (p8 + 1) := (gm161 45 6 rfl).trans km160_45_6
                      show zW E (d) 14 126 [(2, 45), (0, f1), (0, i5), (0, p8)] [] m161 Q
                      refine zw_R zr_14_126 (by decide) zm_14 (v := (9, 0)) rfl ?_
                      rw [← hQ]; exact ⟨rfl, hIm161, hFm161, by omega⟩
                by_cases h163 : i5 = 103
                · refine zw_112 (off := 69) (t := 70) zr_10_1 (by rw [h163]; rfl) rfl ?_
                  refine zw_push zr_10_70 ?_
                  refine zw_R zr_10_71 (by decide) zm_10 (v := (0, 5)) rfl ?_
                  rw [← hQ1]
                  show zW E (d) 14 79 [(2, 45), (0, f1), (0, i5), (0, p8)] [(0, 5)] m7 Q
                  refine zw_push zr_14_79 ?_
                  refine zw_41_1 zr_14_80 ?_ ?_
                  · intro h164; omega
                  · intro h165
                    refine zw_7 zr_14_83 rfl ?_
                    refine zw_43 zr_14_84 rfl ?_
                    refine zw_46i zr_14_85 km7_45_6 rfl rfl rfl ?_
                    refine zw_push zr_14_88 ?_
                    refine zw_16 zr_14_89 (by omega) ?_
                    refine zw_47 (c := 45) zr_14_90 rfl ⟨rfl, by decide, rfl⟩ ?_
                    intro m166 em166
                    have hIm166 : zInv m166 := by rw [em166]; exact hIm7.bd (r := 45) (k := 6) (lo := 0) (hi := 50) rfl (by omega) (by decide) (by decide) (by decide)
                    have hFm166 : zFr W_14 m0 m166 := by rw [em166]; exact hFm7.up rfl
                    have km166_45_7 : m166 45 7 = g0 := by rw [em166, zUp_ne (by omega)]; exact km7_45_7
                    have km166_45_6 : m166 45 6 = (p8 + 1) := by rw [em166]; exact zUp_eq _ _ _ _
                    clear em166
                    refine zw_7 zr_14_93 rfl ?_
                    refine zw_3 zr_14_94 rfl ?_
                    refine zw_38 zr_14_95 (by omega) ?_
                    refine zw_C zr_14_96 (Or.inl rfl) zm_8 rfl rfl ⟨Nat.le_of_ble_eq_true rfl, Nat.le_of_ble_eq_true rfl, Nat.le_of_ble_eq_true rfl, rfl, by decide⟩ (by omega) (P := (fun v m' => zW E (d) 14 99 [(2, 45), (0, f1), (0, i5), (0, p8)] (if v.1 = 9 then [] else v :: []) m' Q)) ?_ (fun _ _ h => h)
                    generalize hQ1 : (fun v m' => zW E (d) 14 99 [(2, 45), (0, f1), (0, i5), (0, p8)] (if v.1 = 9 then [] else v :: []) m' Q) = Q1
                    show zW E (d - 1) 8 0 [(2, 45), (0, (-i5))] [] m166 Q1
                    refine zw_7 zr_8_0 rfl ?_
                    obtain ⟨f167, ef167⟩ : ∃ v, m166 45 8 = v := ⟨_, rfl⟩
                    have bf167 := ib_45_8 hIm166
                    rw [ef167] at bf167
                    refine zw_46i zr_8_1 ef167 rfl rfl rfl ?_
                    refine zw_push zr_8_4 ?_
                    refine zw_41_3 zr_8_6 ?_ ?_
                    · intro h168
                      refine zw_R zr_8_29 (by decide) zm_8 (v := (9, 0)) rfl ?_
                      rw [← hQ1]
                      show zW E (d) 14 99 [(2, 45), (0, f1), (0, i5), (0, p8)] [] m166 Q
                      refine zw_42 zr_14_99 ?_
                      refine zw_7 zr_14_120 rfl ?_
                      refine zw_3 zr_14_121 rfl ?_
                      refine zw_3 zr_14_122 rfl ?_
                      refine zw_C zr_14_123 (Or.inl rfl) zm_11 rfl rfl ⟨Nat.le_of_ble_eq_true rfl, Nat.le_of_ble_eq_true rfl, Nat.le_of_ble_eq_true rfl, rfl, by decide⟩ (by omega) (th_11 (d := d - 1) (by omega) hIm166 (a0 := f1) (a1 := p8)      (by omega) (by omega) ) ?_
                      rintro _ m169 ⟨rfl, hIm169, gm169⟩
                      have hFm169 : zFr W_14 m0 m169 := hFm166.trans gm169 rfl
                      have km169_45_7 : m169 45 7 = g0 := (gm169 45 7 rfl).trans km166_45_7
                      have km169_45_6 : m169 45 6 = (p8 + 1) := (gm169 45 6 rfl).trans km166_45_6
                      show zW E (d) 14 126 [(2, 45), (0, f1), (0, i5), (0, p8)] [] m169 Q
                      refine zw_R zr_14_126 (by decide) zm_14 (v := (9, 0)) rfl ?_
                      rw [← hQ]; exact ⟨rfl, hIm169, hFm169, by omega⟩
                    · intro h171
                      refine zw_7 zr_8_9 rfl ?_
                      refine zw_46r (s := 48) zr_8_10 rfl rfl rfl rfl ?_
                      refine zw_7 zr_8_13 rfl ?_
                      refine zw_46i zr_8_14 ef167 rfl rfl rfl ?_
                      refine zw_3 zr_8_17 rfl ?_
                      refine zw_49 (c := 48) (len := 50) zr_8_18 rfl rfl (by omega) (by omega) ?_
                      intro m172 em172
                      have hIm172 : zInv m172 := by rw [em172]; exact hIm166.any (by omega) rfl (by decide) (by decide)
                      have hFm172 : zFr W_14 m0 m172 := by rw [em172]; exact hFm166.any rfl
                      have km172_45_7 : m172 45 7 = g0 := by rw [em172, zUp_ne (by omega)]; exact km166_45_7
                      have km172_45_6 : m172 45 6 = (p8 + 1) := by rw [em172, zUp_ne (by omega)]; exact km166_45_6
                      have km172_45_8 : m172 45 8 = f167 := by rw [em172, zUp_ne (by omega)]; exact ef167
                      clear em172
                      refine zw_7 zr_8_19 rfl ?_
                      refine zw_43 zr_8_20 rfl ?_
                      refine zw_46i zr_8_21 km172_45_8 rfl rfl rfl ?_
                      refine zw_push zr_8_24 ?_
                      refine zw_16 zr_8_25 (by omega) ?_
                      refine zw_47 (c := 45) zr_8_26 rfl ⟨rfl, by decide, rfl⟩ ?_
                      intro m173 em173
                      have hIm173 : zInv m173 := by rw [em173]; exact hIm172.bd (r := 45) (k := 8) (lo := 0) (hi := 50) rfl (by omega) (by decide) (by decide) (by decide)
                      have hFm173 : zFr W_14 m0 m173 := by rw [em173]; exact hFm172.up rfl
                      have km173_45_7 : m173 45 7 = g0 := by rw [em173, zUp_ne (by omega)]; exact km172_45_7
                      have km173_45_6 : m173 45 6 = (p8 + 1) := by rw [em173, zUp_ne (by omega)]; exact km172_45_6
                      have km173_45_8 : m173 45 8 = (f167 + 1) := by rw [em173]; exact zUp_eq _ _ _ _
                      clear em173
                      refine zw_R zr_8_29 (by decide) zm_8 (v := (9, 0)) rfl ?_
                      rw [← hQ1]
                      show zW E (d) 14 99 [(2, 45), (0, f1), (0, i5), (0, p8)] [] m173 Q
                      refine zw_42 zr_14_99 ?_
                      refine zw_7 zr_14_120 rfl ?_
                      refine zw_3 zr_14_121 rfl ?_
                      refine zw_3 zr_14_122 rfl ?_
                      refine zw_C zr_14_123 (Or.inl rfl) zm_11 rfl rfl ⟨Nat.le_of_ble_eq_true rfl, Nat.le_of_ble_eq_true rfl, Nat.le_of_ble_eq_true rfl, rfl, by decide⟩ (by omega) (th_11 (d := d - 1) (by omega) hIm173 (a0 := f1) (a1 := p8)      (by omega) (by omega) ) ?_
                      rintro _ m174 ⟨rfl, hIm174, gm174⟩
                      have hFm174 : zFr W_14 m0 m174 := hFm173.trans gm174 rfl
                      have km174_45_7 : m174 45 7 = g0 := (gm174 45 7 rfl).trans km173_45_7
                      have km174_45_6 : m174 45 6 = (p8 + 1) := (gm174 45 6 rfl).trans km173_45_6
                      show zW E (d) 14 126 [(2, 45), (0, f1), (0, i5), (0, p8)] [] m174 Q
                      refine zw_R zr_14_126 (by decide) zm_14 (v := (9, 0)) rfl ?_
                      rw [← hQ]; exact ⟨rfl, hIm174, hFm174, by omega⟩
                by_cases h176 : i5 = 109
                · refine zw_112 (off := 65) (t := 66) zr_10_1 (by rw [h176]; rfl) rfl ?_
                  refine zw_push zr_10_66 ?_
                  refine zw_R zr_10_67 (by decide) zm_10 (v := (0, 3)) rfl ?_
                  rw [← hQ1]
                  show zW E (d) 14 79 [(2, 45), (0, f1), (0, i5), (0, p8)] [(0, 3)] m7 Q
                  refine zw_push zr_14_79 ?_
                  refine zw_41_1 zr_14_80 ?_ ?_
                  · intro h177; omega
                  · intro h178
                    refine zw_7 zr_14_83 rfl ?_
                    refine zw_43 zr_14_84 rfl ?_
                    refine zw_46i zr_14_85 km7_45_6 rfl rfl rfl ?_
                    refine zw_push zr_14_88 ?_
                    refine zw_16 zr_14_89 (by omega) ?_
                    refine zw_47 (c := 45) zr_14_90 rfl ⟨rfl, by decide, rfl⟩ ?_
                    intro m179 em179
                    have hIm179 : zInv m179 := by rw [em179]; exact hIm7.bd (r := 45) (k := 6) (lo := 0) (hi := 50) rfl (by omega) (by decide) (by decide) (by decide)
                    have hFm179 : zFr W_14 m0 m179 := by rw [em179]; exact hFm7.up rfl
                    have km179_45_7 : m179 45 7 = g0 := by rw [em179, zUp_ne (by omega)]; exact km7_45_7
                    have km179_45_6 : m179 45 6 = (p8 + 1) := by rw [em179]; exact zUp_eq _ _ _ _
                    clear em179
                    refine zw_7 zr_14_93 rfl ?_
                    refine zw_3 zr_14_94 rfl ?_
                    refine zw_38 zr_14_95 (by omega) ?_
                    refine zw_C zr_14_96 (Or.inl rfl) zm_8 rfl rfl ⟨Nat.le_of_ble_eq_true rfl, Nat.le_of_ble_eq_true rfl, Nat.le_of_ble_eq_true rfl, rfl, by decide⟩ (by omega) (P := (fun v m' => zW E (d) 14 99 [(2, 45), (0, f1), (0, i5), (0, p8)] (if v.1 = 9 then [] else v :: []) m' Q)) ?_ (fun _ _ h => h)
                    generalize hQ1 : (fun v m' => zW E (d) 14 99 [(2, 45), (0, f1), (0, i5), (0, p8)] (if v.1 = 9 then [] else v :: []) m' Q) = Q1
                    show zW E (d - 1) 8 0 [(2, 45), (0, (-i5))] [] m179 Q1
                    refine zw_7 zr_8_0 rfl ?_
                    obtain ⟨f180, ef180⟩ : ∃ v, m179 45 8 = v := ⟨_, rfl⟩
                    have bf180 := ib_45_8 hIm179
                    rw [ef180] at bf180
                    refine zw_46i zr_8_1 ef180 rfl rfl rfl ?_
                    refine zw_push zr_8_4 ?_
                    refine zw_41_3 zr_8_6 ?_ ?_
                    · intro h181
                      refine zw_R zr_8_29 (by decide) zm_8 (v := (9, 0)) rfl ?_
                      rw [← hQ1]
                      show zW E (d) 14 99 [(2, 45), (0, f1), (0, i5), (0, p8)] [] m179 Q
                      refine zw_42 zr_14_99 ?_
                      refine zw_7 zr_14_120 rfl ?_
                      refine zw_3 zr_14_121 rfl ?_
                      refine zw_3 zr_14_122 rfl ?_
                      refine zw_C zr_14_123 (Or.inl rfl) zm_11 rfl rfl ⟨Nat.le_of_ble_eq_true rfl, Nat.le_of_ble_eq_true rfl, Nat.le_of_ble_eq_true rfl, rfl, by decide⟩ (by omega) (th_11 (d := d - 1) (by omega) hIm179 (a0 := f1) (a1 := p8)      (by omega) (by omega) ) ?_
                      rintro _ m182 ⟨rfl, hIm182, gm182⟩
                      have hFm182 : zFr W_14 m0 m182 := hFm179.trans gm182 rfl
                      have km182_45_7 : m182 45 7 = g0 := (gm182 45 7 rfl).trans km179_45_7
                      have km182_45_6 : m182 45 6 = (p8 + 1) := (gm182 45 6 rfl).trans km179_45_6
                      show zW E (d) 14 126 [(2, 45), (0, f1), (0, i5), (0, p8)] [] m182 Q
                      refine zw_R zr_14_126 (by decide) zm_14 (v := (9, 0)) rfl ?_
                      rw [← hQ]; exact ⟨rfl, hIm182, hFm182, by omega⟩
                    · intro h184
                      refine zw_7 zr_8_9 rfl ?_
                      refine zw_46r (s := 48) zr_8_10 rfl rfl rfl rfl ?_
                      refine zw_7 zr_8_13 rfl ?_
                      refine zw_46i zr_8_14 ef180 rfl rfl rfl ?_
                      refine zw_3 zr_8_17 rfl ?_
                      refine zw_49 (c := 48) (len := 50) zr_8_18 rfl rfl (by omega) (by omega) ?_
                      intro m185 em185
                      have hIm185 : zInv m185 := by rw [em185]; exact hIm179.any (by omega) rfl (by decide) (by decide)
                      have hFm185 : zFr W_14 m0 m185 := by rw [em185]; exact hFm179.any rfl
                      have km185_45_7 : m185 45 7 = g0 := by rw [em185, zUp_ne (by omega)]; exact km179_45_7
                      have km185_45_6 : m185 45 6 = (p8 + 1) := by rw [em185, zUp_ne (by omega)]; exact km179_45_6
                      have km185_45_8 : m185 45 8 = f180 := by rw [em185, zUp_ne (by omega)]; exact ef180
                      clear em185
                      refine zw_7 zr_8_19 rfl ?_
                      refine zw_43 zr_8_20 rfl ?_
                      refine zw_46i zr_8_21 km185_45_8 rfl rfl rfl ?_
                      refine zw_push zr_8_24 ?_
                      refine zw_16 zr_8_25 (by omega) ?_
                      refine zw_47 (c := 45) zr_8_26 rfl ⟨rfl, by decide, rfl⟩ ?_
                      intro m186 em186
                      have hIm186 : zInv m186 := by rw [em186]; exact hIm185.bd (r := 45) (k := 8) (lo := 0) (hi := 50) rfl (by omega) (by decide) (by decide) (by decide)
                      have hFm186 : zFr W_14 m0 m186 := by rw [em186]; exact hFm185.up rfl
                      have km186_45_7 : m186 45 7 = g0 := by rw [em186, zUp_ne (by omega)]; exact km185_45_7
                      have km186_45_6 : m186 45 6 = (p8 + 1) := by rw [em186, zUp_ne (by omega)]; exact km185_45_6
                      have km186_45_8 : m186 45 8 = (f180 + 1) := by rw [em186]; exact zUp_eq _ _ _ _
                      clear em186
                      refine zw_R zr_8_29 (by decide) zm_8 (v := (9, 0)) rfl ?_
                      rw [← hQ1]
                      show zW E (d) 14 99 [(2, 45), (0, f1), (0, i5), (0, p8)] [] m186 Q
                      refine zw_42 zr_14_99 ?_
                      refine zw_7 zr_14_120 rfl ?_
                      refine zw_3 zr_14_121 rfl ?_
                      refine zw_3 zr_14_122 rfl ?_
                      refine zw_C zr_14_123 (Or.inl rfl) zm_11 rfl rfl ⟨Nat.le_of_ble_eq_true rfl, Nat.le_of_ble_eq_true rfl, Nat.le_of_ble_eq_true rfl, rfl, by decide⟩ (by omega) (th_11 (d := d - 1) (by omega) hIm186 (a0 := f1) (a1 := p8)      (by omega) (by omega) ) ?_
                      rintro _ m187 ⟨rfl, hIm187, gm187⟩
                      have hFm187 : zFr W_14 m0 m187 := hFm186.trans gm187 rfl
                      have km187_45_7 : m187 45 7 = g0 := (gm187 45 7 rfl).trans km186_45_7
                      have km187_45_6 : m187 45 6 = (p8 + 1) := (gm187 45 6 rfl).trans km186_45_6
                      show zW E (d) 14 126 [(2, 45), (0, f1), (0, i5), (0, p8)] [] m187 Q
                      refine zw_R zr_14_126 (by decide) zm_14 (v := (9, 0)) rfl ?_
                      rw [← hQ]; exact ⟨rfl, hIm187, hFm187, by omega⟩
                by_cases h189 : i5 = 111
                · refine zw_112 (off := 61) (t := 62) zr_10_1 (by rw [h189]; rfl) rfl ?_
                  refine zw_push zr_10_62 ?_
                  refine zw_R zr_10_63 (by decide) zm_10 (v := (0, 1)) rfl ?_
                  rw [← hQ1]
                  show zW E (d) 14 79 [(2, 45), (0, f1), (0, i5), (0, p8)] [(0, 1)] m7 Q
                  refine zw_push zr_14_79 ?_
                  refine zw_41_1 zr_14_80 ?_ ?_
                  · intro h190; omega
                  · intro h191
                    refine zw_7 zr_14_83 rfl ?_
                    refine zw_43 zr_14_84 rfl ?_
                    refine zw_46i zr_14_85 km7_45_6 rfl rfl rfl ?_
                    refine zw_push zr_14_88 ?_
                    refine zw_16 zr_14_89 (by omega) ?_
                    refine zw_47 (c := 45) zr_14_90 rfl ⟨rfl, by decide, rfl⟩ ?_
                    intro m192 em192
                    have hIm192 : zInv m192 := by rw [em192]; exact hIm7.bd (r := 45) (k := 6) (lo := 0) (hi := 50) rfl (by omega) (by decide) (by decide) (by decide)
                    have hFm192 : zFr W_14 m0 m192 := by rw [em192]; exact hFm7.up rfl
                    have km192_45_7 : m192 45 7 = g0 := by rw [em192, zUp_ne (by omega)]; exact km7_45_7
                    have km192_45_6 : m192 45 6 = (p8 + 1) := by rw [em192]; exact zUp_eq _ _ _ _
                    clear em192
                    refine zw_7 zr_14_93 rfl ?_
                    refine zw_3 zr_14_94 rfl ?_
                    refine zw_38 zr_14_95 (by omega) ?_
                    refine zw_C zr_14_96 (Or.inl rfl) zm_8 rfl rfl ⟨Nat.le_of_ble_eq_true rfl, Nat.le_of_ble_eq_true rfl, Nat.le_of_ble_eq_true rfl, rfl, by decide⟩ (by omega) (P := (fun v m' => zW E (d) 14 99 [(2, 45), (0, f1), (0, i5), (0, p8)] (if v.1 = 9 then [] else v :: []) m' Q)) ?_ (fun _ _ h => h)
                    generalize hQ1 : (fun v m' => zW E (d) 14 99 [(2, 45), (0, f1), (0, i5), (0, p8)] (if v.1 = 9 then [] else v :: []) m' Q) = Q1
                    show zW E (d - 1) 8 0 [(2, 45), (0, (-i5))] [] m192 Q1
                    refine zw_7 zr_8_0 rfl ?_
                    obtain ⟨f193, ef193⟩ : ∃ v, m192 45 8 = v := ⟨_, rfl⟩
                    have bf193 := ib_45_8 hIm192
                    rw [ef193] at bf193
                    refine zw_46i zr_8_1 ef193 rfl rfl rfl ?_
                    refine zw_push zr_8_4 ?_
                    refine zw_41_3 zr_8_6 ?_ ?_
                    · intro h194
                      refine zw_R zr_8_29 (by decide) zm_8 (v := (9, 0)) rfl ?_
                      rw [← hQ1]
                      show zW E (d) 14 99 [(2, 45), (0, f1), (0, i5), (0, p8)] [] m192 Q
                      refine zw_42 zr_14_99 ?_
                      refine zw_7 zr_14_120 rfl ?_
                      refine zw_3 zr_14_121 rfl ?_
                      refine zw_3 zr_14_122 rfl ?_
                      refine zw_C zr_14_123 (Or.inl rfl) zm_11 rfl rfl ⟨Nat.le_of_ble_eq_true rfl, Nat.le_of_ble_eq_true rfl, Nat.le_of_ble_eq_true rfl, rfl, by decide⟩ (by omega) (th_11 (d := d - 1) (by omega) hIm192 (a0 := f1) (a1 := p8)      (by omega) (by omega) ) ?_
                      rintro _ m195 ⟨rfl, hIm195, gm195⟩
                      have hFm195 : zFr W_14 m0 m195 := hFm192.trans gm195 rfl
                      have km195_45_7 : m195 45 7 = g0 := (gm195 45 7 rfl).trans km192_45_7
                      have km195_45_6 : m195 45 6 = (p8 + 1) := (gm195 45 6 rfl).trans km192_45_6
                      show zW E (d) 14 126 [(2, 45), (0, f1), (0, i5), (0, p8)] [] m195 Q
                      refine zw_R zr_14_126 (by decide) zm_14 (v := (9, 0)) rfl ?_
                      rw [← hQ]; exact ⟨rfl, hIm195, hFm195, by omega⟩
                    · intro h197
                      refine zw_7 zr_8_9 rfl ?_
                      refine zw_46r (s := 48) zr_8_10 rfl rfl rfl rfl ?_
                      refine zw_7 zr_8_13 rfl ?_
                      refine zw_46i zr_8_14 ef193 rfl rfl rfl ?_
                      refine zw_3 zr_8_17 rfl ?_
                      refine zw_49 (c := 48) (len := 50) zr_8_18 rfl rfl (by omega) (by omega) ?_
                      intro m198 em198
                      have hIm198 : zInv m198 := by rw [em198]; exact hIm192.any (by omega) rfl (by decide) (by decide)
                      have hFm198 : zFr W_14 m0 m198 := by rw [em198]; exact hFm192.any rfl
                      have km198_45_7 : m198 45 7 = g0 := by rw [em198, zUp_ne (by omega)]; exact km192_45_7
                      have km198_45_6 : m198 45 6 = (p8 + 1) := by rw [em198, zUp_ne (by omega)]; exact km192_45_6
                      have km198_45_8 : m198 45 8 = f193 := by rw [em198, zUp_ne (by omega)]; exact ef193
                      clear em198
                      refine zw_7 zr_8_19 rfl ?_
                      refine zw_43 zr_8_20 rfl ?_
                      refine zw_46i zr_8_21 km198_45_8 rfl rfl rfl ?_
                      refine zw_push zr_8_24 ?_
                      refine zw_16 zr_8_25 (by omega) ?_
                      refine zw_47 (c := 45) zr_8_26 rfl ⟨rfl, by decide, rfl⟩ ?_
                      intro m199 em199
                      have hIm199 : zInv m199 := by rw [em199]; exact hIm198.bd (r := 45) (k := 8) (lo := 0) (hi := 50) rfl (by omega) (by decide) (by decide) (by decide)
                      have hFm199 : zFr W_14 m0 m199 := by rw [em199]; exact hFm198.up rfl
                      have km199_45_7 : m199 45 7 = g0 := by rw [em199, zUp_ne (by omega)]; exact km198_45_7
                      have km199_45_6 : m199 45 6 = (p8 + 1) := by rw [em199, zUp_ne (by omega)]; exact km198_45_6
                      have km199_45_8 : m199 45 8 = (f193 + 1) := by rw [em199]; exact zUp_eq _ _ _ _
                      clear em199
                      refine zw_R zr_8_29 (by decide) zm_8 (v := (9, 0)) rfl ?_
                      rw [← hQ1]
                      show zW E (d) 14 99 [(2, 45), (0, f1), (0, i5), (0, p8)] [] m199 Q
                      refine zw_42 zr_14_99 ?_
                      refine zw_7 zr_14_120 rfl ?_
                      refine zw_3 zr_14_121 rfl ?_
                      refine zw_3 zr_14_122 rfl ?_
                      refine zw_C zr_14_123 (Or.inl rfl) zm_11 rfl rfl ⟨Nat.le_of_ble_eq_true rfl, Nat.le_of_ble_eq_true rfl, Nat.le_of_ble_eq_true rfl, rfl, by decide⟩ (by omega) (th_11 (d := d - 1) (by omega) hIm199 (a0 := f1) (a1 := p8)      (by omega) (by omega) ) ?_
                      rintro _ m200 ⟨rfl, hIm200, gm200⟩
                      have hFm200 : zFr W_14 m0 m200 := hFm199.trans gm200 rfl
                      have km200_45_7 : m200 45 7 = g0 := (gm200 45 7 rfl).trans km199_45_7
                      have km200_45_6 : m200 45 6 = (p8 + 1) := (gm200 45 6 rfl).trans km199_45_6
                      show zW E (d) 14 126 [(2, 45), (0, f1), (0, i5), (0, p8)] [] m200 Q
                      refine zw_R zr_14_126 (by decide) zm_14 (v := (9, 0)) rfl ?_
                      rw [← hQ]; exact ⟨rfl, hIm200, hFm200, by omega⟩
                by_cases h202 : i5 = 120
                · refine zw_112 (off := 59) (t := 60) zr_10_1 (by rw [h202]; rfl) rfl ?_
                  refine zw_push zr_10_60 ?_
                  refine zw_R zr_10_61 (by decide) zm_10 (v := (0, 0)) rfl ?_
                  rw [← hQ1]
                  show zW E (d) 14 79 [(2, 45), (0, f1), (0, i5), (0, p8)] [(0, 0)] m7 Q
                  refine zw_push zr_14_79 ?_
                  refine zw_41_1 zr_14_80 ?_ ?_
                  · intro h203; omega
                  · intro h204
                    refine zw_7 zr_14_83 rfl ?_
                    refine zw_43 zr_14_84 rfl ?_
                    refine zw_46i zr_14_85 km7_45_6 rfl rfl rfl ?_
                    refine zw_push zr_14_88 ?_
                    refine zw_16 zr_14_89 (by omega) ?_
                    refine zw_47 (c := 45) zr_14_90 rfl ⟨rfl, by decide, rfl⟩ ?_
                    intro m205 em205
                    have hIm205 : zInv m205 := by rw [em205]; exact hIm7.bd (r := 45) (k := 6) (lo := 0) (hi := 50) rfl (by omega) (by decide) (by decide) (by decide)
                    have hFm205 : zFr W_14 m0 m205 := by rw [em205]; exact hFm7.up rfl
                    have km205_45_7 : m205 45 7 = g0 := by rw [em205, zUp_ne (by omega)]; exact km7_45_7
                    have km205_45_6 : m205 45 6 = (p8 + 1) := by rw [em205]; exact zUp_eq _ _ _ _
                    clear em205
                    refine zw_7 zr_14_93 rfl ?_
                    refine zw_3 zr_14_94 rfl ?_
                    refine zw_38 zr_14_95 (by omega) ?_
                    refine zw_C zr_14_96 (Or.inl rfl) zm_8 rfl rfl ⟨Nat.le_of_ble_eq_true rfl, Nat.le_of_ble_eq_true rfl, Nat.le_of_ble_eq_true rfl, rfl, by decide⟩ (by omega) (P := (fun v m' => zW E (d) 14 99 [(2, 45), (0, f1), (0, i5), (0, p8)] (if v.1 = 9 then [] else v :: []) m' Q)) ?_ (fun _ _ h => h)
                    generalize hQ1 : (fun v m' => zW E (d) 14 99 [(2, 45), (0, f1), (0, i5), (0, p8)] (if v.1 = 9 then [] else v :: []) m' Q) = Q1
                    show zW E (d - 1) 8 0 [(2, 45), (0, (-i5))] [] m205 Q1
                    refine zw_7 zr_8_0 rfl ?_
                    obtain ⟨f206, ef206⟩ : ∃ v, m205 45 8 = v := ⟨_, rfl⟩
                    have bf206 := ib_45_8 hIm205
                    rw [ef206] at bf206
                    refine zw_46i zr_8_1 ef206 rfl rfl rfl ?_
                    refine zw_push zr_8_4 ?_
                    refine zw_41_3 zr_8_6 ?_ ?_
                    · intro h207
                      refine zw_R zr_8_29 (by decide) zm_8 (v := (9, 0)) rfl ?_
                      rw [← hQ1]
                      show zW E (d) 14 99 [(2, 45), (0, f1), (0, i5), (0, p8)] [] m205 Q
                      refine zw_42 zr_14_99 ?_
                      refine zw_7 zr_14_120 rfl ?_
                      refine zw_3 zr_14_121 rfl ?_
                      refine zw_3 zr_14_122 rfl ?_
                      refine zw_C zr_14_123 (Or.inl rfl) zm_11 rfl rfl ⟨Nat.le_of_ble_eq_true rfl, Nat.le_of_ble_eq_true rfl, Nat.le_of_ble_eq_true rfl, rfl, by decide⟩ (by omega) (th_11 (d := d - 1) (by omega) hIm205 (a0 := f1) (a1 := p8)      (by omega) (by omega) ) ?_
                      rintro _ m208 ⟨rfl, hIm208, gm208⟩
                      have hFm208 : zFr W_14 m0 m208 := hFm205.trans gm208 rfl
                      have km208_45_7 : m208 45 7 = g0 := (gm208 45 7 rfl).trans km205_45_7
                      have km208_45_6 : m208 45 6 = (p8 + 1) := (gm208 45 6 rfl).trans km205_45_6
                      show zW E (d) 14 126 [(2, 45), (0, f1), (0, i5), (0, p8)] [] m208 Q
                      refine zw_R zr_14_126 (by decide) zm_14 (v := (9, 0)) rfl ?_
                      rw [← hQ]; exact ⟨rfl, hIm208, hFm208, by omega⟩
                    · intro h210
                      refine zw_7 zr_8_9 rfl ?_
                      refine zw_46r (s := 48) zr_8_10 rfl rfl rfl rfl ?_
                      refine zw_7 zr_8_13 rfl ?_
                      refine zw_46i zr_8_14 ef206 rfl rfl rfl ?_
                      refine zw_3 zr_8_17 rfl ?_
                      refine zw_49 (c := 48) (len := 50) zr_8_18 rfl rfl (by omega) (by omega) ?_
                      intro m211 em211
                      have hIm211 : zInv m211 := by rw [em211]; exact hIm205.any (by omega) rfl (by decide) (by decide)
                      have hFm211 : zFr W_14 m0 m211 := by rw [em211]; exact hFm205.any rfl
                      have km211_45_7 : m211 45 7 = g0 := by rw [em211, zUp_ne (by omega)]; exact km205_45_7
                      have km211_45_6 : m211 45 6 = (p8 + 1) := by rw [em211, zUp_ne (by omega)]; exact km205_45_6
                      have km211_45_8 : m211 45 8 = f206 := by rw [em211, zUp_ne (by omega)]; exact ef206
                      clear em211
                      refine zw_7 zr_8_19 rfl ?_
                      refine zw_43 zr_8_20 rfl ?_
                      refine zw_46i zr_8_21 km211_45_8 rfl rfl rfl ?_
                      refine zw_push zr_8_24 ?_
                      refine zw_16 zr_8_25 (by omega) ?_
                      refine zw_47 (c := 45) zr_8_26 rfl ⟨rfl, by decide, rfl⟩ ?_
                      intro m212 em212
                      have hIm212 : zInv m212 := by rw [em212]; exact hIm211.bd (r := 45) (k := 8) (lo := 0) (hi := 50) rfl (by omega) (by decide) (by decide) (by decide)
                      have hFm212 : zFr W_14 m0 m212 := by rw [em212]; exact hFm211.up rfl
                      have km212_45_7 : m212 45 7 = g0 := by rw [em212, zUp_ne (by omega)]; exact km211_45_7
                      have km212_45_6 : m212 45 6 = (p8 + 1) := by rw [em212, zUp_ne (by omega)]; exact km211_45_6
                      have km212_45_8 : m212 45 8 = (f206 + 1) := by rw [em212]; exact zUp_eq _ _ _ _
                      clear em212
                      refine zw_R zr_8_29 (by decide) zm_8 (v := (9, 0)) rfl ?_
                      rw [← hQ1]
                      show zW E (d) 14 99 [(2, 45), (0, f1), (0, i5), (0, p8)] [] m212 Q
                      refine zw_42 zr_14_99 ?_
                      refine zw_7 zr_14_120 rfl ?_
                      refine zw_3 zr_14_121 rfl ?_
                      refine zw_3 zr_14_122 rfl ?_
                      refine zw_C zr_14_123 (Or.inl rfl) zm_11 rfl rfl ⟨Nat.le_of_ble_eq_true rfl, Nat.le_of_ble_eq_true rfl, Nat.le_of_ble_eq_true rfl, rfl, by decide⟩ (by omega) (th_11 (d := d - 1) (by omega) hIm212 (a0 := f1) (a1 := p8)      (by omega) (by omega) ) ?_
                      rintro _ m213 ⟨rfl, hIm213, gm213⟩
                      have hFm213 : zFr W_14 m0 m213 := hFm212.trans gm213 rfl
                      have km213_45_7 : m213 45 7 = g0 := (gm213 45 7 rfl).trans km212_45_7
                      have km213_45_6 : m213 45 6 = (p8 + 1) := (gm213 45 6 rfl).trans km212_45_6
                      show zW E (d) 14 126 [(2, 45), (0, f1), (0, i5), (0, p8)] [] m213 Q
                      refine zw_R zr_14_126 (by decide) zm_14 (v := (9, 0)) rfl ?_
                      rw [← hQ]; exact ⟨rfl, hIm213, hFm213, by omega⟩
                by_cases h215 : i5 = 121
                · refine zw_112 (off := 67) (t := 68) zr_10_1 (by rw [h215]; rfl) rfl ?_
                  refine zw_push zr_10_68 ?_
                  refine zw_R zr_10_69 (by decide) zm_10 (v := (0, 4)) rfl ?_
                  rw [← hQ1]
                  show zW E (d) 14 79 [(2, 45), (0, f1), (0, i5), (0, p8)] [(0, 4)] m7 Q
                  refine zw_push zr_14_79 ?_
                  refine zw_41_1 zr_14_80 ?_ ?_
                  · intro h216; omega
                  · intro h217
                    refine zw_7 zr_14_83 rfl ?_
                    refine zw_43 zr_14_84 rfl ?_
                    refine zw_46i zr_14_85 km7_45_6 rfl rfl rfl ?_
                    refine zw_push zr_14_88 ?_
                    refine zw_16 zr_14_89 (by omega) ?_
                    refine zw_47 (c := 45) zr_14_90 rfl ⟨rfl, by decide, rfl⟩ ?_
                    intro m218 em218
                    have hIm218 : zInv m218 := by rw [em218]; exact hIm7.bd (r := 45) (k := 6) (lo := 0) (hi := 50) rfl (by omega) (by decide) (by decide) (by decide)
                    have hFm218 : zFr W_14 m0 m218 := by rw [em218]; exact hFm7.up rfl
                    have km218_45_7 : m218 45 7 = g0 := by rw [em218, zUp_ne (by omega)]; exact km7_45_7
                    have km218_45_6 : m218 45 6 = (p8 + 1) := by rw [em218]; exact zUp_eq _ _ _ _
                    clear em218
                    refine zw_7 zr_14_93 rfl ?_
                    refine zw_3 zr_14_94 rfl ?_
                    refine zw_38 zr_14_95 (by omega) ?_
                    refine zw_C zr_14_96 (Or.inl rfl) zm_8 rfl rfl ⟨Nat.le_of_ble_eq_true rfl, Nat.le_of_ble_eq_true rfl, Nat.le_of_ble_eq_true rfl, rfl, by decide⟩ (by omega) (P := (fun v m' => zW E (d) 14 99 [(2, 45), (0, f1), (0, i5), (0, p8)] (if v.1 = 9 then [] else v :: []) m' Q)) ?_ (fun _ _ h => h)
                    generalize hQ1 : (fun v m' => zW E (d) 14 99 [(2, 45), (0, f1), (0, i5), (0, p8)] (if v.1 = 9 then [] else v :: []) m' Q) = Q1
                    show zW E (d - 1) 8 0 [(2, 45), (0, (-i5))] [] m218 Q1
                    refine zw_7 zr_8_0 rfl ?_
                    obtain ⟨f219, ef219⟩ : ∃ v, m218 45 8 = v := ⟨_, rfl⟩
                    have bf219 := ib_45_8 hIm218
                    rw [ef219] at bf219
                    refine zw_46i zr_8_1 ef219 rfl rfl rfl ?_
                    refine zw_push zr_8_4 ?_
                    refine zw_41_3 zr_8_6 ?_ ?_
                    · intro h220
                      refine zw_R zr_8_29 (by decide) zm_8 (v := (9, 0)) rfl ?_
                      rw [← hQ1]
                      show zW E (d) 14 99 [(2, 45), (0, f1), (0, i5), (0, p8)] [] m218 Q
                      refine zw_42 zr_14_99 ?_
                      refine zw_7 zr_14_120 rfl ?_
                      refine zw_3 zr_14_121 rfl ?_
                      refine zw_3 zr_14_122 rfl ?_
                      refine zw_C zr_14_123 (Or.inl rfl) zm_11 rfl rfl ⟨Nat.le_of_ble_eq_true rfl, Nat.le_of_ble_eq_true rfl, Nat.le_of_ble_eq_true rfl, rfl, by decide⟩ (by omega) (th_11 (d := d - 1) (by omega) hIm218 (a0 := f1) (a1 := p8)      (by omega) (by omega) ) ?_
                      rintro _ m221 ⟨rfl, hIm221, gm221⟩
                      have hFm221 : zFr W_14 m0 m221 := hFm218.trans gm221 rfl
                      have km221_45_7 : m221 45 7 = g0 := (gm221 45 7 rfl).trans km218_45_7
                      have km221_45_6 : m221 45 6 = (p8 + 1) := (gm221 45 6 rfl).trans km218_45_6
                      show zW E (d) 14 126 [(2, 45), (0, f1), (0, i5), (0, p8)] [] m221 Q
                      refine zw_R zr_14_126 (by decide) zm_14 (v := (9, 0)) rfl ?_
                      rw [← hQ]; exact ⟨rfl, hIm221, hFm221, by omega⟩
                    · intro h223
                      refine zw_7 zr_8_9 rfl ?_
                      refine zw_46r (s := 48) zr_8_10 rfl rfl rfl rfl ?_
                      refine zw_7 zr_8_13 rfl ?_
                      refine zw_46i zr_8_14 ef219 rfl rfl rfl ?_
                      refine zw_3 zr_8_17 rfl ?_
                      refine zw_49 (c := 48) (len := 50) zr_8_18 rfl rfl (by omega) (by omega) ?_
                      intro m224 em224
                      have hIm224 : zInv m224 := by rw [em224]; exact hIm218.any (by omega) rfl (by decide) (by decide)
                      have hFm224 : zFr W_14 m0 m224 := by rw [em224]; exact hFm218.any rfl
                      have km224_45_7 : m224 45 7 = g0 := by rw [em224, zUp_ne (by omega)]; exact km218_45_7
                      have km224_45_6 : m224 45 6 = (p8 + 1) := by rw [em224, zUp_ne (by omega)]; exact km218_45_6
                      have km224_45_8 : m224 45 8 = f219 := by rw [em224, zUp_ne (by omega)]; exact ef219
                      clear em224
                      refine zw_7 zr_8_19 rfl ?_
                      refine zw_43 zr_8_20 rfl ?_
                      refine zw_46i zr_8_21 km224_45_8 rfl rfl rfl ?_
                      refine zw_push zr_8_24 ?_
                      refine zw_16 zr_8_25 (by omega) ?_
                      refine zw_47 (c := 45) zr_8_26 rfl ⟨rfl, by decide, rfl⟩ ?_
                      intro m225 em225
                      have hIm225 : zInv m225 := by rw [em225]; exact hIm224.bd (r := 45) (k := 8) (lo := 0) (hi := 50) rfl (by omega) (by decide) (by decide) (by decide)
                      have hFm225 : zFr W_14 m0 m225 := by rw [em225]; exact hFm224.up rfl
                      have km225_45_7 : m225 45 7 = g0 := by rw [em225, zUp_ne (by omega)]; exact km224_45_7
                      have km225_45_6 : m225 45 6 = (p8 + 1) := by rw [em225, zUp_ne (by omega)]; exact km224_45_6
                      have km225_45_8 : m225 45 8 = (f219 + 1) := by rw [em225]; exact zUp_eq _ _ _ _
                      clear em225
                      refine zw_R zr_8_29 (by decide) zm_8 (v := (9, 0)) rfl ?_
                      rw [← hQ1]
                      show zW E (d) 14 99 [(2, 45), (0, f1), (0, i5), (0, p8)] [] m225 Q
                      refine zw_42 zr_14_99 ?_
                      refine zw_7 zr_14_120 rfl ?_
                      refine zw_3 zr_14_121 rfl ?_
                      refine zw_3 zr_14_122 rfl ?_
                      refine zw_C zr_14_123 (Or.inl rfl) zm_11 rfl rfl ⟨Nat.le_of_ble_eq_true rfl, Nat.le_of_ble_eq_true rfl, Nat.le_of_ble_eq_true rfl, rfl, by decide⟩ (by omega) (th_11 (d := d - 1) (by omega) hIm225 (a0 := f1) (a1 := p8)      (by omega) (by omega) ) ?_
                      rintro _ m226 ⟨rfl, hIm226, gm226⟩
                      have hFm226 : zFr W_14 m0 m226 := hFm225.trans gm226 rfl
                      have km226_45_7 : m226 45 7 = g0 := (gm226 45 7 rfl).trans km225_45_7
                      have km226_45_6 : m226 45 6 = (p8 + 1) := (gm226 45 6 rfl).trans km225_45_6
                      show zW E (d) 14 126 [(2, 45), (0, f1), (0, i5), (0, p8)] [] m226 Q
                      refine zw_R zr_14_126 (by decide) zm_14 (v := (9, 0)) rfl ?_
                      rw [← hQ]; exact ⟨rfl, hIm226, hFm226, by omega⟩
                refine zw_112 (off := 71) (t := 72) zr_10_1 (zlsw_df (by simp; omega)) rfl ?_
                refine zw_push zr_10_72 ?_
                refine zw_R zr_10_73 (by decide) zm_10 (v := (0, (-1))) rfl ?_
                rw [← hQ1]
                show zW E (d) 14 79 [(2, 45), (0, f1), (0, i5), (0, p8)] [(0, (-1))] m7 Q
                refine zw_push zr_14_79 ?_
                refine zw_41_1 zr_14_80 ?_ ?_
                · intro h228
                  refine zw_3 zr_14_102 rfl ?_
                  refine zw_push zr_14_103 ?_
                  refine zw_41_4 zr_14_105 ?_ ?_
                  · intro h229
                    refine zw_7 zr_14_115 rfl ?_
                    refine zw_push zr_14_116 ?_
                    refine zw_C zr_14_117 (Or.inl rfl) zm_5 rfl rfl ⟨Nat.le_of_ble_eq_true rfl, Nat.le_of_ble_eq_true rfl, Nat.le_of_ble_eq_true rfl, rfl, by decide⟩ (by omega) (P := (fun v m' => zW E (d) 14 120 [(2, 45), (0, f1), (0, i5), (0, p8)] (if v.1 = 9 then [] else v :: []) m' Q)) ?_ (fun _ _ h => h)
                    generalize hQ1 : (fun v m' => zW E (d) 14 120 [(2, 45), (0, f1), (0, i5), (0, p8)] (if v.1 = 9 then [] else v :: []) m' Q) = Q1
                    show zW E (d - 1) 5 0 [(2, 45), (0, 1)] [] m7 Q1
                    refine zw_7 zr_5_0 rfl ?_
                    obtain ⟨f230, ef230⟩ : ∃ v, m7 45 1 = v := ⟨_, rfl⟩
                    have bf230 := hIm7.fi (c := 45) (k := 1) rfl
                    rw [ef230] at bf230
                    refine zw_46i zr_5_1 ef230 rfl rfl rfl ?_
                    refine zw_push zr_5_4 ?_
                    refine zw_41_4 zr_5_5 ?_ ?_
                    · intro h231
                      refine zw_R zr_5_21 (by decide) zm_5 (v := (9, 0)) rfl ?_
                      rw [← hQ1]
                      show zW E (d) 14 120 [(2, 45), (0, f1), (0, i5), (0, p8)] [] m7 Q
                      refine zw_7 zr_14_120 rfl ?_
                      refine zw_3 zr_14_121 rfl ?_
                      refine zw_3 zr_14_122 rfl ?_
                      refine zw_C zr_14_123 (Or.inl rfl) zm_11 rfl rfl ⟨Nat.le_of_ble_eq_true rfl, Nat.le_of_ble_eq_true rfl, Nat.le_of_ble_eq_true rfl, rfl, by decide⟩ (by omega) (th_11 (d := d - 1) (by omega) hIm7 (a0 := f1) (a1 := p8)      (by omega) (by omega) ) ?_
                      rintro _ m232 ⟨rfl, hIm232, gm232⟩
                      have hFm232 : zFr W_14 m0 m232 := hFm7.trans gm232 rfl
                      have km232_45_7 : m232 45 7 = g0 := (gm232 45 7 rfl).trans km7_45_7
                      have km232_45_6 : m232 45 6 = p8 := (gm232 45 6 rfl).trans km7_45_6
                      have km232_45_1 : m232 45 1 = f230 := (gm232 45 1 rfl).trans ef230
                      show zW E (d) 14 126 [(2, 45), (0, f1), (0, i5), (0, p8)] [] m232 Q
                      refine zw_R zr_14_126 (by decide) zm_14 (v := (9, 0)) rfl ?_
                      rw [← hQ]; exact ⟨rfl, hIm232, hFm232, by omega⟩
                    · intro h234
                      refine zw_7 zr_5_8 rfl ?_
                      refine zw_7 zr_5_9 rfl ?_
                      refine zw_46i zr_5_10 km7_45_6 rfl rfl rfl ?_
                      refine zw_push zr_5_13 ?_
                      refine zw_18 zr_5_15 (by omega) ?_
                      refine zw_3 zr_5_16 rfl ?_
                      refine zw_16 zr_5_17 (by omega) ?_
                      refine zw_47 (c := 45) zr_5_18 rfl ⟨rfl, by decide, rfl⟩ ?_
                      intro m235 em235
                      have hIm235 : zInv m235 := by rw [em235]; exact hIm7.any (by omega) rfl (by decide) (by decide)
                      have hFm235 : zFr W_14 m0 m235 := by rw [em235]; exact hFm7.up rfl
                      have km235_45_7 : m235 45 7 = g0 := by rw [em235, zUp_ne (by omega)]; exact km7_45_7
                      have km235_45_6 : m235 45 6 = p8 := by rw [em235, zUp_ne (by omega)]; exact km7_45_6
                      have km235_45_1 : m235 45 1 = ((p8 * 10) + 1) := by rw [em235]; exact zUp_eq _ _ _ _
                      clear em235
                      refine zw_R zr_5_21 (by decide) zm_5 (v := (9, 0)) rfl ?_
                      rw [← hQ1]
                      show zW E (d) 14 120 [(2, 45), (0, f1), (0, i5), (0, p8)] [] m235 Q
                      refine zw_7 zr_14_120 rfl ?_
                      refine zw_3 zr_14_121 rfl ?_
                      refine zw_3 zr_14_122 rfl ?_
                      refine zw_C zr_14_123 (Or.inl rfl) zm_11 rfl rfl ⟨Nat.le_of_ble_eq_true rfl, Nat.le_of_ble_eq_true rfl, Nat.le_of_ble_eq_true rfl, rfl, by decide⟩ (by omega) (th_11 (d := d - 1) (by omega) hIm235 (a0 := f1) (a1 := p8)      (by omega) (by omega) ) ?_
                      rintro _ m236 ⟨rfl, hIm236, gm236⟩
                      have hFm236 : zFr W_14 m0 m236 := hFm235.trans gm236 rfl
                      have km236_45_7 : m236 45 7 = g0 := (gm236 45 7 rfl).trans km235_45_7
                      have km236_45_6 : m236 45 6 = p8 := (gm236 45 6 rfl).trans km235_45_6
                      have km236_45_1 : m236 45 1 = ((p8 * 10) + 1) := (gm236 45 1 rfl).trans km235_45_1
                      show zW E (d) 14 126 [(2, 45), (0, f1), (0, i5), (0, p8)] [] m236 Q
                      refine zw_R zr_14_126 (by decide) zm_14 (v := (9, 0)) rfl ?_
                      rw [← hQ]; exact ⟨rfl, hIm236, hFm236, by omega⟩
                  · intro h238; omega
                · intro h239; omega
              · intro h240
                refine zw_7 zr_14_68 rfl ?_
                refine zw_C zr_14_69 (Or.inl rfl) zm_9 rfl rfl ⟨Nat.le_of_ble_eq_true rfl, Nat.le_of_ble_eq_true rfl, Nat.le_of_ble_eq_true rfl, rfl, by decide⟩ (by omega) (th_9 (d := d - 1) (by omega) hIm7        ) ?_
                rintro _ m241 ⟨rfl, hIm241, gm241⟩
                have hFm241 : zFr W_14 m0 m241 := hFm7.trans gm241 rfl
                have km241_45_7 : m241 45 7 = g0 := (gm241 45 7 rfl).trans km7_45_7
                show zW E (d) 14 72 [(2, 45), (0, f1), (0, i5), (0, p8)] [] m241 Q
                refine zw_42 zr_14_72 ?_
                refine zw_7 zr_14_120 rfl ?_
                refine zw_3 zr_14_121 rfl ?_
                refine zw_3 zr_14_122 rfl ?_
                refine zw_C zr_14_123 (Or.inl rfl) zm_11 rfl rfl ⟨Nat.le_of_ble_eq_true rfl, Nat.le_of_ble_eq_true rfl, Nat.le_of_ble_eq_true rfl, rfl, by decide⟩ (by omega) (th_11 (d := d - 1) (by omega) hIm241 (a0 := f1) (a1 := p8)      (by omega) (by omega) ) ?_
                rintro _ m242 ⟨rfl, hIm242, gm242⟩
                have hFm242 : zFr W_14 m0 m242 := hFm241.trans gm242 rfl
                have km242_45_7 : m242 45 7 = g0 := (gm242 45 7 rfl).trans km241_45_7
                show zW E (d) 14 126 [(2, 45), (0, f1), (0, i5), (0, p8)] [] m242 Q
                refine zw_R zr_14_126 (by decide) zm_14 (v := (9, 0)) rfl ?_
                rw [← hQ]; exact ⟨rfl, hIm242, hFm242, by omega⟩
          · intro h244
            refine zw_7 zr_14_30 rfl ?_
            refine zw_43 zr_14_31 rfl ?_
            refine zw_46i zr_14_32 km7_45_6 rfl rfl rfl ?_
            refine zw_push zr_14_35 ?_
            refine zw_16 zr_14_36 (by omega) ?_
            refine zw_47 (c := 45) zr_14_37 rfl ⟨rfl, by decide, rfl⟩ ?_
            intro m245 em245
            have hIm245 : zInv m245 := by rw [em245]; exact hIm7.bd (r := 45) (k := 6) (lo := 0) (hi := 50) rfl (by omega) (by decide) (by decide) (by decide)
            have hFm245 : zFr W_14 m0 m245 := by rw [em245]; exact hFm7.up rfl
            have km245_45_7 : m245 45 7 = g0 := by rw [em245, zUp_ne (by omega)]; exact km7_45_7
            have km245_45_6 : m245 45 6 = (p8 + 1) := by rw [em245]; exact zUp_eq _ _ _ _
            clear em245
            refine zw_7 zr_14_40 rfl ?_
            refine zw_C zr_14_41 (Or.inl rfl) zm_6 rfl rfl ⟨Nat.le_of_ble_eq_true rfl, Nat.le_of_ble_eq_true rfl, Nat.le_of_ble_eq_true rfl, rfl, by decide⟩ (by omega) (th_6 (d := d - 1) (by omega) hIm245        ) ?_
            rintro _ m246 ⟨r247, rfl, hr247a, hr247b, hIm246, gm246, po0_r247⟩
            have hFm246 : zFr W_14 m0 m246 := hFm245.trans gm246 rfl
            have km246_45_7 : m246 45 7 = g0 := (gm246 45 7 rfl).trans km245_45_7
            obtain ⟨f248, ef248⟩ : ∃ v, m246 45 6 = v := ⟨_, rfl⟩
            have bf248 := ib_45_6 hIm246
            rw [ef248] at bf248
            show zW E (d) 14 44 [(2, 45), (0, f1), (0, i5), (0, i6)] [(0, r247)] m246 Q
            refine zw_9 (L' := [(2, 45), (0, f1), (0, r247), (0, i6)]) zr_14_44 (Nat.le_of_ble_eq_true rfl) rfl ?_
            refine zw_15 (c := 1) (L' := [(2, 45), (0, f1), (0, r247), (0, (i6 + 1))]) zr_14_45 rfl (by decide) (by omega) rfl ?_
            refine zw_42 zr_14_48 ?_
            exact zw_less (L := [(2, 45), (0, f1), (0, r247), (0, (i6 + 1))]) ⟨Or.inr rfl, Or.inr rfl, Or.inr rfl, Or.inr rfl, trivial⟩ (ihlp12_9 (r247) ((i6 + 1)) (f248) m246 hIm246 hFm246  km246_45_7 ef248 (by omega) (by omega) (by omega) (by omega) (by omega) (by omega) (by omega) (by omega))
  exact lp12_9 _ (r3) (0) (f4) m2 hIm2 hFm2  km2_45_7 ef4 (by omega) (by omega) (by omega) (by omega) (by omega) (by omega) (by omega) (Nat.lt_succ_self _)
set_option maxHeartbeats 8000000 in
theorem tr_12 {E : zE} {d : Nat} (ih13 : rs_13 E (d - 1)) (ih14 : rs_14 E (d - 1)) (ih12 : rs_12 E (d - 1)) : rs_12 E d := by
  intro m0 g0 g1 hd hI0 hg0 hg1 hp0
  have hF0 : zFr W_12 m0 m0 := zFr.rfl
  have bg0 := ib_45_7 hI0
  rw [hg0] at bg0
  have bg1 := ib_45_6 hI0
  rw [hg1] at bg1
  generalize hQ : (fun (v : zV) (m' : zM) => v = (9, 0) ∧ zInv m' ∧ zFr W_12 m0 m' ∧ (m' 45 7 = g0)) = Q
  show zW E d 12 0 [(2, 45)] [] m0 Q
  refine zw_7 zr_12_0 rfl ?_
  refine zw_46i zr_12_1 hg0 rfl rfl rfl ?_
  refine zw_push zr_12_4 ?_
  refine zw_41_0 zr_12_6 ?_ ?_
  · intro h1
    refine zw_7 zr_12_15 rfl ?_
    refine zw_43 zr_12_16 rfl ?_
    refine zw_46i zr_12_17 hg1 rfl rfl rfl ?_
    refine zw_push zr_12_20 ?_
    refine zw_16 zr_12_21 (by omega) ?_
    refine zw_47 (c := 45) zr_12_22 rfl ⟨rfl, by decide, rfl⟩ ?_
    intro m2 em2
    have hIm2 : zInv m2 := by rw [em2]; exact hI0.bd (r := 45) (k := 6) (lo := 0) (hi := 50) rfl (by omega) (by decide) (by decide) (by decide)
    have hFm2 : zFr W_12 m0 m2 := by rw [em2]; exact hF0.up rfl
    have km2_45_7 : m2 45 7 = g0 := by rw [em2, zUp_ne (by omega)]; exact hg0
    have km2_45_6 : m2 45 6 = (g1 + 1) := by rw [em2]; exact zUp_eq _ _ _ _
    clear em2
    refine zw_7 zr_12_25 rfl ?_
    refine zw_43 zr_12_26 rfl ?_
    refine zw_46i zr_12_27 km2_45_7 rfl rfl rfl ?_
    refine zw_push zr_12_30 ?_
    refine zw_16 zr_12_31 (by omega) ?_
    refine zw_47 (c := 45) zr_12_32 rfl ⟨rfl, by decide, rfl⟩ ?_
    intro m3 em3
    have hIm3 : zInv m3 := by rw [em3]; exact hIm2.bd (r := 45) (k := 7) (lo := 0) (hi := 8) rfl (by omega) (by decide) (by decide) (by decide)
    have hFm3 : zFr W_12 m0 m3 := by rw [em3]; exact hFm2.up rfl
    have km3_45_6 : m3 45 6 = (g1 + 1) := by rw [em3, zUp_ne (by omega)]; exact km2_45_6
    have km3_45_7 : m3 45 7 = (g0 + 1) := by rw [em3]; exact zUp_eq _ _ _ _
    clear em3
    refine zw_7 zr_12_35 rfl ?_
    refine zw_push zr_12_36 ?_
    refine zw_C zr_12_37 (Or.inl rfl) zm_13 rfl rfl ⟨Nat.le_of_ble_eq_true rfl, Nat.le_of_ble_eq_true rfl, Nat.le_of_ble_eq_true rfl, rfl, by decide⟩ (by omega) (ih13 m3 (0) ((g0 + 1)) (by omega) hIm3 km3_45_7  (by omega) ) ?_
    rintro _ m4 ⟨rfl, hIm4, gm4, po0_m4⟩
    have hFm4 : zFr W_12 m0 m4 := hFm3.trans gm4 rfl
    show zW E (d) 12 40 [(2, 45)] [] m4 Q
    refine zw_7 zr_12_40 rfl ?_
    refine zw_43 zr_12_41 rfl ?_
    refine zw_46i zr_12_42 po0_m4 rfl rfl rfl ?_
    refine zw_push zr_12_45 ?_
    refine zw_17 zr_12_46 (by omega) ?_
    refine zw_47 (c := 45) zr_12_47 rfl ⟨rfl, by decide, rfl⟩ ?_
    intro m5 em5
    have hIm5 : zInv m5 := by rw [em5]; exact hIm4.bd (r := 45) (k := 7) (lo := 0) (hi := 8) rfl (by omega) (by decide) (by decide) (by decide)
    have hFm5 : zFr W_12 m0 m5 := by rw [em5]; exact hFm4.up rfl
    have km5_45_7 : m5 45 7 = ((g0 + 1) - 1) := by rw [em5]; exact zUp_eq _ _ _ _
    clear em5
    refine zw_7 zr_12_50 rfl ?_
    refine zw_C zr_12_51 (Or.inl rfl) zm_6 rfl rfl ⟨Nat.le_of_ble_eq_true rfl, Nat.le_of_ble_eq_true rfl, Nat.le_of_ble_eq_true rfl, rfl, by decide⟩ (by omega) (th_6 (d := d - 1) (by omega) hIm5        ) ?_
    rintro _ m6 ⟨r7, rfl, hr7a, hr7b, hIm6, gm6, po0_r7⟩
    have hFm6 : zFr W_12 m0 m6 := hFm5.trans gm6 rfl
    have km6_45_7 : m6 45 7 = ((g0 + 1) - 1) := (gm6 45 7 rfl).trans km5_45_7
    obtain ⟨f8, ef8⟩ : ∃ v, m6 45 6 = v := ⟨_, rfl⟩
    have bf8 := ib_45_6 hIm6
    rw [ef8] at bf8
    show zW E (d) 12 54 [(2, 45)] [(0, r7)] m6 Q
    refine zw_push zr_12_54 ?_
    refine zw_41_4 zr_12_56 ?_ ?_
    · intro h9
      refine zw_7 zr_12_72 rfl ?_
      refine zw_push zr_12_73 ?_
      refine zw_C zr_12_74 (Or.inl rfl) zm_5 rfl rfl ⟨Nat.le_of_ble_eq_true rfl, Nat.le_of_ble_eq_true rfl, Nat.le_of_ble_eq_true rfl, rfl, by decide⟩ (by omega) (P := (fun v m' => zW E (d) 12 77 [(2, 45)] (if v.1 = 9 then [] else v :: []) m' Q)) ?_ (fun _ _ h => h)
      generalize hQ1 : (fun v m' => zW E (d) 12 77 [(2, 45)] (if v.1 = 9 then [] else v :: []) m' Q) = Q1
      show zW E (d - 1) 5 0 [(2, 45), (0, 1)] [] m6 Q1
      refine zw_7 zr_5_0 rfl ?_
      obtain ⟨f10, ef10⟩ : ∃ v, m6 45 1 = v := ⟨_, rfl⟩
      have bf10 := hIm6.fi (c := 45) (k := 1) rfl
      rw [ef10] at bf10
      refine zw_46i zr_5_1 ef10 rfl rfl rfl ?_
      refine zw_push zr_5_4 ?_
      refine zw_41_4 zr_5_5 ?_ ?_
      · intro h11
        refine zw_R zr_5_21 (by decide) zm_5 (v := (9, 0)) rfl ?_
        rw [← hQ1]
        show zW E (d) 12 77 [(2, 45)] [] m6 Q
        refine zw_R zr_12_77 (by decide) zm_12 (v := (9, 0)) rfl ?_
        rw [← hQ]; exact ⟨rfl, hIm6, hFm6, by omega⟩
      · intro h13
        refine zw_7 zr_5_8 rfl ?_
        refine zw_7 zr_5_9 rfl ?_
        refine zw_46i zr_5_10 ef8 rfl rfl rfl ?_
        refine zw_push zr_5_13 ?_
        refine zw_18 zr_5_15 (by omega) ?_
        refine zw_3 zr_5_16 rfl ?_
        refine zw_16 zr_5_17 (by omega) ?_
        refine zw_47 (c := 45) zr_5_18 rfl ⟨rfl, by decide, rfl⟩ ?_
        intro m14 em14
        have hIm14 : zInv m14 := by rw [em14]; exact hIm6.any (by omega) rfl (by decide) (by decide)
        have hFm14 : zFr W_12 m0 m14 := by rw [em14]; exact hFm6.up rfl
        have km14_45_7 : m14 45 7 = ((g0 + 1) - 1) := by rw [em14, zUp_ne (by omega)]; exact km6_45_7
        have km14_45_6 : m14 45 6 = f8 := by rw [em14, zUp_ne (by omega)]; exact ef8
        have km14_45_1 : m14 45 1 = ((f8 * 10) + 1) := by rw [em14]; exact zUp_eq _ _ _ _
        clear em14
        refine zw_R zr_5_21 (by decide) zm_5 (v := (9, 0)) rfl ?_
        rw [← hQ1]
        show zW E (d) 12 77 [(2, 45)] [] m14 Q
        refine zw_R zr_12_77 (by decide) zm_12 (v := (9, 0)) rfl ?_
        rw [← hQ]; exact ⟨rfl, hIm14, hFm14, by omega⟩
    · intro h16
      refine zw_7 zr_12_59 rfl ?_
      refine zw_43 zr_12_60 rfl ?_
      refine zw_46i zr_12_61 ef8 rfl rfl rfl ?_
      refine zw_push zr_12_64 ?_
      refine zw_16 zr_12_65 (by omega) ?_
      refine zw_47 (c := 45) zr_12_66 rfl ⟨rfl, by decide, rfl⟩ ?_
      intro m17 em17
      have hIm17 : zInv m17 := by rw [em17]; exact hIm6.bd (r := 45) (k := 6) (lo := 0) (hi := 50) rfl (by omega) (by decide) (by decide) (by decide)
      have hFm17 : zFr W_12 m0 m17 := by rw [em17]; exact hFm6.up rfl
      have km17_45_7 : m17 45 7 = ((g0 + 1) - 1) := by rw [em17, zUp_ne (by omega)]; exact km6_45_7
      have km17_45_6 : m17 45 6 = (f8 + 1) := by rw [em17]; exact zUp_eq _ _ _ _
      clear em17
      refine zw_42 zr_12_69 ?_
      refine zw_R zr_12_77 (by decide) zm_12 (v := (9, 0)) rfl ?_
      rw [← hQ]; exact ⟨rfl, hIm17, hFm17, by omega⟩
  · intro h19
    refine zw_7 zr_12_9 rfl ?_
    refine zw_push zr_12_10 ?_
    refine zw_C zr_12_11 (Or.inl rfl) zm_5 rfl rfl ⟨Nat.le_of_ble_eq_true rfl, Nat.le_of_ble_eq_true rfl, Nat.le_of_ble_eq_true rfl, rfl, by decide⟩ (by omega) (P := (fun v m' => zW E (d) 12 14 [(2, 45)] (if v.1 = 9 then [] else v :: []) m' Q)) ?_ (fun _ _ h => h)
    generalize hQ1 : (fun v m' => zW E (d) 12 14 [(2, 45)] (if v.1 = 9 then [] else v :: []) m' Q) = Q1
    show zW E (d - 1) 5 0 [(2, 45), (0, 3)] [] m0 Q1
    refine zw_7 zr_5_0 rfl ?_
    obtain ⟨f20, ef20⟩ : ∃ v, m0 45 1 = v := ⟨_, rfl⟩
    have bf20 := hI0.fi (c := 45) (k := 1) rfl
    rw [ef20] at bf20
    refine zw_46i zr_5_1 ef20 rfl rfl rfl ?_
    refine zw_push zr_5_4 ?_
    refine zw_41_4 zr_5_5 ?_ ?_
    · intro h21
      refine zw_R zr_5_21 (by decide) zm_5 (v := (9, 0)) rfl ?_
      rw [← hQ1]
      show zW E (d) 12 14 [(2, 45)] [] m0 Q
      refine zw_R zr_12_14 (by decide) zm_12 (v := (9, 0)) rfl ?_
      rw [← hQ]; exact ⟨rfl, hI0, hF0, by omega⟩
    · intro h23
      refine zw_7 zr_5_8 rfl ?_
      refine zw_7 zr_5_9 rfl ?_
      refine zw_46i zr_5_10 hg1 rfl rfl rfl ?_
      refine zw_push zr_5_13 ?_
      refine zw_18 zr_5_15 (by omega) ?_
      refine zw_3 zr_5_16 rfl ?_
      refine zw_16 zr_5_17 (by omega) ?_
      refine zw_47 (c := 45) zr_5_18 rfl ⟨rfl, by decide, rfl⟩ ?_
      intro m24 em24
      have hIm24 : zInv m24 := by rw [em24]; exact hI0.any (by omega) rfl (by decide) (by decide)
      have hFm24 : zFr W_12 m0 m24 := by rw [em24]; exact hF0.up rfl
      have km24_45_7 : m24 45 7 = g0 := by rw [em24, zUp_ne (by omega)]; exact hg0
      have km24_45_6 : m24 45 6 = g1 := by rw [em24, zUp_ne (by omega)]; exact hg1
      have km24_45_1 : m24 45 1 = ((g1 * 10) + 3) := by rw [em24]; exact zUp_eq _ _ _ _
      clear em24
      refine zw_R zr_5_21 (by decide) zm_5 (v := (9, 0)) rfl ?_
      rw [← hQ1]
      show zW E (d) 12 14 [(2, 45)] [] m24 Q
      refine zw_R zr_12_14 (by decide) zm_12 (v := (9, 0)) rfl ?_
      rw [← hQ]; exact ⟨rfl, hIm24, hFm24, by omega⟩
theorem gr_13 (E : zE) : ∀ d, rs_13 E d ∧ rs_14 E d ∧ rs_12 E d := by
  intro d
  induction d with
  | zero => exact ⟨(by intro m0 a0 g0 hd; exfalso; omega), (by intro m0 g0 hd; exfalso; omega), (by intro m0 g0 g1 hd; exfalso; omega)⟩
  | succ d ih => exact ⟨tr_13 (d := d + 1) ih.1 ih.2.1 ih.2.2, tr_14 (d := d + 1) ih.1 ih.2.1 ih.2.2, tr_12 (d := d + 1) ih.1 ih.2.1 ih.2.2⟩
theorem th_13 {E : zE} {d : Nat} {m0 : zM} {a0 : Int} {g0 : Int} (hd : (10 * (8 - g0) + (6 - a0)).toNat + 6 ≤ d) (hI0 : zInv m0) (hg0 : m0 45 7 = g0) (ha0 : 0 ≤ a0 ∧ a0 ≤ 5) : zC E d 13 [(2, 45), (0, a0)] m0 (fun v m' => v = (9, 0) ∧ zInv m' ∧ zFr W_13 m0 m' ∧ (m' 45 7 = g0)) := (gr_13 E d).1 m0 a0 g0 hd hI0 hg0 ha0
theorem th_14 {E : zE} {d : Nat} {m0 : zM} {g0 : Int} (hd : (10 * (8 - g0)).toNat + 6 ≤ d) (hI0 : zInv m0) (hg0 : m0 45 7 = g0) : zC E d 14 [(2, 45)] m0 (fun v m' => v = (9, 0) ∧ zInv m' ∧ zFr W_14 m0 m' ∧ (m' 45 7 = g0)) := (gr_13 E d).2.1 m0 g0 hd hI0 hg0
theorem th_12 {E : zE} {d : Nat} {m0 : zM} {g0 : Int} {g1 : Int} (hd : (10 * (8 - g0)).toNat + 5 ≤ d) (hI0 : zInv m0) (hg0 : m0 45 7 = g0) (hg1 : m0 45 6 = g1) (hp0 : g1 ≤ 49) : zC E d 12 [(2, 45)] m0 (fun v m' => v = (9, 0) ∧ zInv m' ∧ zFr W_12 m0 m' ∧ (m' 45 7 = g0)) := (gr_13 E d).2.2 m0 g0 g1 hd hI0 hg0 hg1 hp0
