abbrev W_130 : List (Nat × Nat) := [(13, 1000)]
set_option maxHeartbeats 8000000 in
theorem th_130 {E : zE} {d : Nat} {m0 : zM} {a0 : Int} {a1 : Int} {F13 : Nat → Int} (hd : 3 ≤ d) (hI0 : zInv m0) (hG13 : m0 13 = F13) (ha0 : (-2147483648) ≤ a0 ∧ a0 ≤ 2147483647) (ha1 : (-2147483648) ≤ a1 ∧ a1 ≤ 2147483647) : zC E d 130 [(2, 0), (0, a0), (0, a1)] m0 (fun v m' => ∃ r : Int, v = (0, r) ∧ (-2) ≤ r ∧ r ≤ 9 ∧ zInv m' ∧ zFr W_130 m0 m' ∧ ((r = -2 ∧ (a0 < 0 ∨ 3 < a0 ∨ a1 < 1 ∨ 9 < a1)) ∨ (0 ≤ a0 ∧ a0 ≤ 3 ∧ 1 ≤ a1 ∧ a1 ≤ 9 ∧ 0 ≤ r ∧ r = F13 a0.toNat)) ∧ (m' 13 = if 0 ≤ r then zPt F13 a0.toNat a1 else F13)) := by
  have hF0 : zFr W_130 m0 m0 := zFr.rfl
  generalize hQ : (fun (v : zV) (m' : zM) => ∃ r : Int, v = (0, r) ∧ (-2) ≤ r ∧ r ≤ 9 ∧ zInv m' ∧ zFr W_130 m0 m' ∧ ((r = -2 ∧ (a0 < 0 ∨ 3 < a0 ∨ a1 < 1 ∨ 9 < a1)) ∨ (0 ≤ a0 ∧ a0 ≤ 3 ∧ 1 ≤ a1 ∧ a1 ≤ 9 ∧ 0 ≤ r ∧ r = F13 a0.toNat)) ∧ (m' 13 = if 0 ≤ r then zPt F13 a0.toNat a1 else F13)) = Q
  show zW E d 130 0 [(2, 0), (0, a0), (0, a1), (9, 0)] [] m0 Q
  refine zw_3 zr_130_0 rfl ?_
  refine zw_C zr_130_1 (Or.inr rfl) zm_128 rfl rfl ⟨Nat.le_of_ble_eq_true rfl, Nat.le_of_ble_eq_true rfl, Nat.le_of_ble_eq_true rfl, rfl, by decide⟩ (by omega) (P := (fun v m' => zW E (d) 130 4 [(2, 0), (0, a0), (0, a1), (9, 0)] (if v.1 = 9 then [] else v :: []) m' Q)) ?_ (fun _ _ h => h)
  generalize hQ1 : (fun v m' => zW E (d) 130 4 [(2, 0), (0, a0), (0, a1), (9, 0)] (if v.1 = 9 then [] else v :: []) m' Q) = Q1
  show zW E (d - 1) 128 0 [(0, a0)] [] m0 Q1
  refine zw_3 zr_128_0 rfl ?_
  refine zw_push zr_128_1 ?_
  refine zw_push zr_128_2 ?_
  refine zw_C zr_128_3 (Or.inr rfl) zm_100 rfl rfl ⟨Nat.le_of_ble_eq_true rfl, Nat.le_of_ble_eq_true rfl, Nat.le_of_ble_eq_true rfl, rfl, by decide⟩ (by omega) (P := (fun v m' => zW E (d - 1) 128 6 [(0, a0)] (if v.1 = 9 then [] else v :: []) m' Q1)) ?_ (fun _ _ h => h)
  generalize hQ2 : (fun v m' => zW E (d - 1) 128 6 [(0, a0)] (if v.1 = 9 then [] else v :: []) m' Q1) = Q2
  show zW E (d - 1 - 1) 100 0 [(0, a0), (0, 0), (0, 3)] [] m0 Q2
  refine zw_3 zr_100_0 rfl ?_
  refine zw_3 zr_100_1 rfl ?_
  refine zw_41_0 zr_100_2 ?_ ?_
  · intro h1
    refine zw_push zr_100_14 ?_
    refine zw_R zr_100_15 (by decide) zm_100 (v := (0, 0)) (zRetB (by omega)) ?_
    rw [← hQ2]
    show zW E (d - 1) 128 6 [(0, a0)] [(0, 0)] m0 Q1
    refine zw_R zr_128_6 (by decide) zm_128 (v := (0, 0)) (zRetB (by omega)) ?_
    rw [← hQ1]
    show zW E (d) 130 4 [(2, 0), (0, a0), (0, a1), (9, 0)] [(0, 0)] m0 Q
    refine zw_40_1 zr_130_4 ?_ ?_
    · intro h2
      refine zw_push zr_130_17 ?_
      refine zw_R zr_130_19 (by decide) zm_130 (v := (0, (-2))) rfl ?_
      rw [← hQ]; exact ⟨_, rfl, by omega, by omega, hI0, hF0, by omega, by rw [hG13]; first | exact (if_neg (by omega)).symm | exact (if_pos (by omega)).symm⟩
    · intro h5; omega
  · intro h6
    refine zw_3 zr_100_5 rfl ?_
    refine zw_3 zr_100_6 rfl ?_
    refine zw_41_2 zr_100_7 ?_ ?_
    · intro h7
      refine zw_push zr_100_14 ?_
      refine zw_R zr_100_15 (by decide) zm_100 (v := (0, 0)) (zRetB (by omega)) ?_
      rw [← hQ2]
      show zW E (d - 1) 128 6 [(0, a0)] [(0, 0)] m0 Q1
      refine zw_R zr_128_6 (by decide) zm_128 (v := (0, 0)) (zRetB (by omega)) ?_
      rw [← hQ1]
      show zW E (d) 130 4 [(2, 0), (0, a0), (0, a1), (9, 0)] [(0, 0)] m0 Q
      refine zw_40_1 zr_130_4 ?_ ?_
      · intro h8
        refine zw_push zr_130_17 ?_
        refine zw_R zr_130_19 (by decide) zm_130 (v := (0, (-2))) rfl ?_
        rw [← hQ]; exact ⟨_, rfl, by omega, by omega, hI0, hF0, by omega, by rw [hG13]; first | exact (if_neg (by omega)).symm | exact (if_pos (by omega)).symm⟩
      · intro h11; omega
    · intro h12
      refine zw_push zr_100_10 ?_
      refine zw_42 zr_100_11 ?_
      refine zw_R zr_100_15 (by decide) zm_100 (v := (0, 1)) (zRetB (by omega)) ?_
      rw [← hQ2]
      show zW E (d - 1) 128 6 [(0, a0)] [(0, 1)] m0 Q1
      refine zw_R zr_128_6 (by decide) zm_128 (v := (0, 1)) (zRetB (by omega)) ?_
      rw [← hQ1]
      show zW E (d) 130 4 [(2, 0), (0, a0), (0, a1), (9, 0)] [(0, 1)] m0 Q
      refine zw_40_1 zr_130_4 ?_ ?_
      · intro h13; omega
      · intro h14
        refine zw_3 zr_130_7 rfl ?_
        refine zw_push zr_130_8 ?_
        refine zw_push zr_130_9 ?_
        refine zw_C zr_130_11 (Or.inr rfl) zm_100 rfl rfl ⟨Nat.le_of_ble_eq_true rfl, Nat.le_of_ble_eq_true rfl, Nat.le_of_ble_eq_true rfl, rfl, by decide⟩ (by omega) (P := (fun v m' => zW E (d) 130 14 [(2, 0), (0, a0), (0, a1), (9, 0)] (if v.1 = 9 then [] else v :: []) m' Q)) ?_ (fun _ _ h => h)
        generalize hQ1 : (fun v m' => zW E (d) 130 14 [(2, 0), (0, a0), (0, a1), (9, 0)] (if v.1 = 9 then [] else v :: []) m' Q) = Q1
        show zW E (d - 1) 100 0 [(0, a1), (0, 1), (0, 9)] [] m0 Q1
        refine zw_3 zr_100_0 rfl ?_
        refine zw_3 zr_100_1 rfl ?_
        refine zw_41_0 zr_100_2 ?_ ?_
        · intro h15
          refine zw_push zr_100_14 ?_
          refine zw_R zr_100_15 (by decide) zm_100 (v := (0, 0)) (zRetB (by omega)) ?_
          rw [← hQ1]
          show zW E (d) 130 14 [(2, 0), (0, a0), (0, a1), (9, 0)] [(0, 0)] m0 Q
          refine zw_40_4 zr_130_14 ?_ ?_
          · intro h16; omega
          · intro h17
            refine zw_push zr_130_17 ?_
            refine zw_R zr_130_19 (by decide) zm_130 (v := (0, (-2))) rfl ?_
            rw [← hQ]; exact ⟨_, rfl, by omega, by omega, hI0, hF0, by omega, by rw [hG13]; first | exact (if_neg (by omega)).symm | exact (if_pos (by omega)).symm⟩
        · intro h20
          refine zw_3 zr_100_5 rfl ?_
          refine zw_3 zr_100_6 rfl ?_
          refine zw_41_2 zr_100_7 ?_ ?_
          · intro h21
            refine zw_push zr_100_14 ?_
            refine zw_R zr_100_15 (by decide) zm_100 (v := (0, 0)) (zRetB (by omega)) ?_
            rw [← hQ1]
            show zW E (d) 130 14 [(2, 0), (0, a0), (0, a1), (9, 0)] [(0, 0)] m0 Q
            refine zw_40_4 zr_130_14 ?_ ?_
            · intro h22; omega
            · intro h23
              refine zw_push zr_130_17 ?_
              refine zw_R zr_130_19 (by decide) zm_130 (v := (0, (-2))) rfl ?_
              rw [← hQ]; exact ⟨_, rfl, by omega, by omega, hI0, hF0, by omega, by rw [hG13]; first | exact (if_neg (by omega)).symm | exact (if_pos (by omega)).symm⟩
          · intro h26
            refine zw_push zr_100_10 ?_
            refine zw_42 zr_100_11 ?_
            refine zw_R zr_100_15 (by decide) zm_100 (v := (0, 1)) (zRetB (by omega)) ?_
            rw [← hQ1]
            show zW E (d) 130 14 [(2, 0), (0, a0), (0, a1), (9, 0)] [(0, 1)] m0 Q
            refine zw_40_4 zr_130_14 ?_ ?_
            · intro h27
              refine zw_7 zr_130_20 rfl ?_
              refine zw_46r (s := 1) zr_130_21 rfl rfl rfl rfl ?_
              refine zw_46r (s := 13) zr_130_24 rfl rfl rfl rfl ?_
              refine zw_3 zr_130_27 rfl ?_
              refine zw_48 (c := 13) (len := 4) zr_130_28 rfl rfl (by omega) (by omega) ?_
              intro x28 ex28
              have bx28 := ib_13 hI0 (k := (a0).toNat) (by omega)
              rw [← ex28] at bx28
              have qx28 : x28 = F13 (a0).toNat := by rw [← hG13]; exact ex28
              clear ex28
              refine zw_9 (L' := [(2, 0), (0, a0), (0, a1), (0, x28)]) zr_130_29 (Nat.le_of_ble_eq_true rfl) rfl ?_
              refine zw_7 zr_130_30 rfl ?_
              refine zw_46r (s := 1) zr_130_31 rfl rfl rfl rfl ?_
              refine zw_46r (s := 13) zr_130_34 rfl rfl rfl rfl ?_
              refine zw_3 zr_130_37 rfl ?_
              refine zw_3 zr_130_38 rfl ?_
              refine zw_49 (c := 13) (len := 4) zr_130_39 rfl rfl (by omega) (by omega) ?_
              intro m29 em29
              have hIm29 : zInv m29 := by rw [em29]; exact iu_13 hI0 (by omega)
              have hFm29 : zFr W_130 m0 m29 := by rw [em29]; exact hF0.any rfl
              have fm29_13 : m29 13 = zPt F13 ((a0).toNat) a1 := by rw [em29]; exact (zUp_ff (m := m0)).trans (congrArg (fun q => zPt q ((a0).toNat) a1) hG13)
              clear em29
              refine zw_3 zr_130_40 rfl ?_
              refine zw_R zr_130_41 (by decide) zm_130 (v := (0, x28)) rfl ?_
              rw [← hQ]; exact ⟨_, rfl, by omega, by omega, hIm29, hFm29, by omega, by rw [fm29_13]; first | exact (if_neg (by omega)).symm | exact (if_pos (by omega)).symm⟩
            · intro h32; omega

abbrev W_205 : List (Nat × Nat) := [(70, 1000)]
set_option maxHeartbeats 8000000 in
theorem th_205 {E : zE} {d : Nat} {m0 : zM} {a0 : Int} {a1 : Int} {F70 : Nat → Int} (hd : 3 ≤ d) (hI0 : zInv m0) (hG70 : m0 70 = F70) (ha0 : (-2147483648) ≤ a0 ∧ a0 ≤ 2147483647) (ha1 : (-2147483648) ≤ a1 ∧ a1 ≤ 2147483647) : zC E d 205 [(2, 69), (0, a0), (0, a1)] m0 (fun v m' => ∃ r : Int, v = (0, r) ∧ (-2) ≤ r ∧ r ≤ 9 ∧ zInv m' ∧ zFr W_205 m0 m' ∧ ((r = -2 ∧ (a0 < 0 ∨ 3 < a0 ∨ a1 < 1 ∨ 9 < a1)) ∨ (0 ≤ a0 ∧ a0 ≤ 3 ∧ 1 ≤ a1 ∧ a1 ≤ 9 ∧ 0 ≤ r ∧ r = F70 (818 + a0).toNat)) ∧ (m' 70 = if 0 ≤ r then zPt F70 (818 + a0).toNat a1 else F70)) := by
  have hF0 : zFr W_205 m0 m0 := zFr.rfl
  generalize hQ : (fun (v : zV) (m' : zM) => ∃ r : Int, v = (0, r) ∧ (-2) ≤ r ∧ r ≤ 9 ∧ zInv m' ∧ zFr W_205 m0 m' ∧ ((r = -2 ∧ (a0 < 0 ∨ 3 < a0 ∨ a1 < 1 ∨ 9 < a1)) ∨ (0 ≤ a0 ∧ a0 ≤ 3 ∧ 1 ≤ a1 ∧ a1 ≤ 9 ∧ 0 ≤ r ∧ r = F70 (818 + a0).toNat)) ∧ (m' 70 = if 0 ≤ r then zPt F70 (818 + a0).toNat a1 else F70)) = Q
  show zW E d 205 0 [(2, 69), (0, a0), (0, a1), (9, 0)] [] m0 Q
  refine zw_3 zr_205_0 rfl ?_
  refine zw_C zr_205_1 (Or.inr rfl) zm_148 rfl rfl ⟨Nat.le_of_ble_eq_true rfl, Nat.le_of_ble_eq_true rfl, Nat.le_of_ble_eq_true rfl, rfl, by decide⟩ (by omega) (P := (fun v m' => zW E (d) 205 4 [(2, 69), (0, a0), (0, a1), (9, 0)] (if v.1 = 9 then [] else v :: []) m' Q)) ?_ (fun _ _ h => h)
  generalize hQ1 : (fun v m' => zW E (d) 205 4 [(2, 69), (0, a0), (0, a1), (9, 0)] (if v.1 = 9 then [] else v :: []) m' Q) = Q1
  show zW E (d - 1) 148 0 [(0, a0)] [] m0 Q1
  refine zw_3 zr_148_0 rfl ?_
  refine zw_36 zr_148_1 ?_
  refine zw_push zr_148_2 ?_
  refine zw_push zr_148_3 ?_
  refine zw_C zr_148_6 (Or.inr rfl) zm_140 rfl rfl ⟨Nat.le_of_ble_eq_true rfl, Nat.le_of_ble_eq_true rfl, Nat.le_of_ble_eq_true rfl, rfl, by decide⟩ (by omega) (P := (fun v m' => zW E (d - 1) 148 9 [(0, a0)] (if v.1 = 9 then [] else v :: []) m' Q1)) ?_ (fun _ _ h => h)
  generalize hQ2 : (fun v m' => zW E (d - 1) 148 9 [(0, a0)] (if v.1 = 9 then [] else v :: []) m' Q1) = Q2
  show zW E (d - 1 - 1) 140 0 [(1, a0), (9, 0), (1, 0), (9, 0), (1, 3), (9, 0)] [] m0 Q2
  refine zw_5 zr_140_0 rfl ?_
  refine zw_5 zr_140_1 rfl ?_
  refine zw_39_0 zr_140_2 zr_140_3 ?_ ?_
  · intro h1
    refine zw_push zr_140_17 ?_
    refine zw_R zr_140_18 (by decide) zm_140 (v := (0, 0)) (zRetB (by omega)) ?_
    rw [← hQ2]
    show zW E (d - 1) 148 9 [(0, a0)] [(0, 0)] m0 Q1
    refine zw_R zr_148_9 (by decide) zm_148 (v := (0, 0)) (zRetB (by omega)) ?_
    rw [← hQ1]
    show zW E (d) 205 4 [(2, 69), (0, a0), (0, a1), (9, 0)] [(0, 0)] m0 Q
    refine zw_40_1 zr_205_4 ?_ ?_
    · intro h2
      refine zw_push zr_205_19 ?_
      refine zw_R zr_205_21 (by decide) zm_205 (v := (0, (-2))) rfl ?_
      rw [← hQ]; exact ⟨_, rfl, by omega, by omega, hI0, hF0, by omega, by rw [hG70]; first | exact (if_neg (by omega)).symm | exact (if_pos (by omega)).symm⟩
    · intro h5; omega
  · intro h6
    refine zw_5 zr_140_6 rfl ?_
    refine zw_6 zr_140_7 rfl ?_
    refine zw_39_2 zr_140_9 zr_140_10 ?_ ?_
    · intro h7
      refine zw_push zr_140_17 ?_
      refine zw_R zr_140_18 (by decide) zm_140 (v := (0, 0)) (zRetB (by omega)) ?_
      rw [← hQ2]
      show zW E (d - 1) 148 9 [(0, a0)] [(0, 0)] m0 Q1
      refine zw_R zr_148_9 (by decide) zm_148 (v := (0, 0)) (zRetB (by omega)) ?_
      rw [← hQ1]
      show zW E (d) 205 4 [(2, 69), (0, a0), (0, a1), (9, 0)] [(0, 0)] m0 Q
      refine zw_40_1 zr_205_4 ?_ ?_
      · intro h8
        refine zw_push zr_205_19 ?_
        refine zw_R zr_205_21 (by decide) zm_205 (v := (0, (-2))) rfl ?_
        rw [← hQ]; exact ⟨_, rfl, by omega, by omega, hI0, hF0, by omega, by rw [hG70]; first | exact (if_neg (by omega)).symm | exact (if_pos (by omega)).symm⟩
      · intro h11; omega
    · intro h12
      refine zw_push zr_140_13 ?_
      refine zw_42 zr_140_14 ?_
      refine zw_R zr_140_18 (by decide) zm_140 (v := (0, 1)) (zRetB (by omega)) ?_
      rw [← hQ2]
      show zW E (d - 1) 148 9 [(0, a0)] [(0, 1)] m0 Q1
      refine zw_R zr_148_9 (by decide) zm_148 (v := (0, 1)) (zRetB (by omega)) ?_
      rw [← hQ1]
      show zW E (d) 205 4 [(2, 69), (0, a0), (0, a1), (9, 0)] [(0, 1)] m0 Q
      refine zw_40_1 zr_205_4 ?_ ?_
      · intro h13; omega
      · intro h14
        refine zw_3 zr_205_7 rfl ?_
        refine zw_36 zr_205_8 ?_
        refine zw_push zr_205_9 ?_
        refine zw_push zr_205_10 ?_
        refine zw_C zr_205_13 (Or.inr rfl) zm_140 rfl rfl ⟨Nat.le_of_ble_eq_true rfl, Nat.le_of_ble_eq_true rfl, Nat.le_of_ble_eq_true rfl, rfl, by decide⟩ (by omega) (P := (fun v m' => zW E (d) 205 16 [(2, 69), (0, a0), (0, a1), (9, 0)] (if v.1 = 9 then [] else v :: []) m' Q)) ?_ (fun _ _ h => h)
        generalize hQ1 : (fun v m' => zW E (d) 205 16 [(2, 69), (0, a0), (0, a1), (9, 0)] (if v.1 = 9 then [] else v :: []) m' Q) = Q1
        show zW E (d - 1) 140 0 [(1, a1), (9, 0), (1, 1), (9, 0), (1, 9), (9, 0)] [] m0 Q1
        refine zw_5 zr_140_0 rfl ?_
        refine zw_5 zr_140_1 rfl ?_
        refine zw_39_0 zr_140_2 zr_140_3 ?_ ?_
        · intro h15
          refine zw_push zr_140_17 ?_
          refine zw_R zr_140_18 (by decide) zm_140 (v := (0, 0)) (zRetB (by omega)) ?_
          rw [← hQ1]
          show zW E (d) 205 16 [(2, 69), (0, a0), (0, a1), (9, 0)] [(0, 0)] m0 Q
          refine zw_40_4 zr_205_16 ?_ ?_
          · intro h16; omega
          · intro h17
            refine zw_push zr_205_19 ?_
            refine zw_R zr_205_21 (by decide) zm_205 (v := (0, (-2))) rfl ?_
            rw [← hQ]; exact ⟨_, rfl, by omega, by omega, hI0, hF0, by omega, by rw [hG70]; first | exact (if_neg (by omega)).symm | exact (if_pos (by omega)).symm⟩
        · intro h20
          refine zw_5 zr_140_6 rfl ?_
          refine zw_6 zr_140_7 rfl ?_
          refine zw_39_2 zr_140_9 zr_140_10 ?_ ?_
          · intro h21
            refine zw_push zr_140_17 ?_
            refine zw_R zr_140_18 (by decide) zm_140 (v := (0, 0)) (zRetB (by omega)) ?_
            rw [← hQ1]
            show zW E (d) 205 16 [(2, 69), (0, a0), (0, a1), (9, 0)] [(0, 0)] m0 Q
            refine zw_40_4 zr_205_16 ?_ ?_
            · intro h22; omega
            · intro h23
              refine zw_push zr_205_19 ?_
              refine zw_R zr_205_21 (by decide) zm_205 (v := (0, (-2))) rfl ?_
              rw [← hQ]; exact ⟨_, rfl, by omega, by omega, hI0, hF0, by omega, by rw [hG70]; first | exact (if_neg (by omega)).symm | exact (if_pos (by omega)).symm⟩
          · intro h26
            refine zw_push zr_140_13 ?_
            refine zw_42 zr_140_14 ?_
            refine zw_R zr_140_18 (by decide) zm_140 (v := (0, 1)) (zRetB (by omega)) ?_
            rw [← hQ1]
            show zW E (d) 205 16 [(2, 69), (0, a0), (0, a1), (9, 0)] [(0, 1)] m0 Q
            refine zw_40_4 zr_205_16 ?_ ?_
            · intro h27
              refine zw_7 zr_205_22 rfl ?_
              refine zw_46r (s := 70) zr_205_23 rfl rfl rfl rfl ?_
              refine zw_push zr_205_26 ?_
              refine zw_3 zr_205_29 rfl ?_
              refine zw_16 zr_205_30 (by omega) ?_
              refine zw_48 (c := 70) (len := 826) zr_205_31 rfl rfl (by omega) (by omega) ?_
              intro x28 ex28
              have bx28 := ib_70_weight hI0 (k := ((818 + a0)).toNat) (by omega)
              rw [← ex28] at bx28
              have qx28 : x28 = F70 ((818 + a0)).toNat := by rw [← hG70]; exact ex28
              clear ex28
              refine zw_9 (L' := [(2, 69), (0, a0), (0, a1), (0, x28)]) zr_205_32 (Nat.le_of_ble_eq_true rfl) rfl ?_
              refine zw_7 zr_205_33 rfl ?_
              refine zw_46r (s := 70) zr_205_34 rfl rfl rfl rfl ?_
              refine zw_push zr_205_37 ?_
              refine zw_3 zr_205_40 rfl ?_
              refine zw_16 zr_205_41 (by omega) ?_
              refine zw_3 zr_205_42 rfl ?_
              refine zw_49 (c := 70) (len := 826) zr_205_43 rfl rfl (by omega) (by omega) ?_
              intro m29 em29
              have hIm29 : zInv m29 := by rw [em29]; exact iu_70_weight hI0 (by omega) (by omega)
              have hFm29 : zFr W_205 m0 m29 := by rw [em29]; exact hF0.any rfl
              have fm29_70 : m29 70 = zPt F70 (((818 + a0)).toNat) a1 := by rw [em29]; exact (zUp_ff (m := m0)).trans (congrArg (fun q => zPt q (((818 + a0)).toNat) a1) hG70)
              clear em29
              refine zw_3 zr_205_44 rfl ?_
              refine zw_R zr_205_45 (by decide) zm_205 (v := (0, x28)) rfl ?_
              rw [← hQ]; exact ⟨_, rfl, by omega, by omega, hIm29, hFm29, by omega, by rw [fm29_70]; first | exact (if_neg (by omega)).symm | exact (if_pos (by omega)).symm⟩
            · intro h32; omega

set_option maxHeartbeats 8000000 in
theorem th_60 {E : zE} {d : Nat} {m0 : zM} {a0 : Int} {F4 : Nat → Int} (hd : 1 ≤ d) (hI0 : zInv m0) (hG4 : m0 4 = F4) (ha0 : 0 ≤ a0 ∧ a0 ≤ 9) : zC E d 60 [(2, 1), (0, a0)] m0 (fun v m' => ∃ r : Int, v = (0, r) ∧ 0 ≤ r ∧ r ≤ 396 ∧ m0 = m' ∧ (r = F4 (a0 * 4 + 0).toNat + F4 (a0 * 4 + (0 + 1)).toNat + F4 (a0 * 4 + ((0 + 1) + 1)).toNat + F4 (a0 * 4 + (((0 + 1) + 1) + 1)).toNat)) := by
  generalize hQ : (fun (v : zV) (m' : zM) => ∃ r : Int, v = (0, r) ∧ 0 ≤ r ∧ r ≤ 396 ∧ m0 = m' ∧ (r = F4 (a0 * 4 + 0).toNat + F4 (a0 * 4 + (0 + 1)).toNat + F4 (a0 * 4 + ((0 + 1) + 1)).toNat + F4 (a0 * 4 + (((0 + 1) + 1) + 1)).toNat)) = Q
  show zW E d 60 0 [(2, 1), (0, a0), (9, 0), (9, 0)] [] m0 Q
  refine zw_push zr_60_0 ?_
  refine zw_9 (L' := [(2, 1), (0, a0), (0, 0), (9, 0)]) zr_60_1 (Nat.le_of_ble_eq_true rfl) rfl ?_
  refine zw_push zr_60_2 ?_
  refine zw_9 (L' := [(2, 1), (0, a0), (0, 0), (0, 0)]) zr_60_3 (Nat.le_of_ble_eq_true rfl) rfl ?_
  refine zw_3 zr_60_4 rfl ?_
  refine zw_push zr_60_5 ?_
  refine zw_41_3 zr_60_6 ?_ ?_
  · intro h1; omega
  · intro h2
    refine zw_3 zr_60_9 rfl ?_
    refine zw_7 zr_60_10 rfl ?_
    refine zw_46r (s := 4) zr_60_11 rfl rfl rfl rfl ?_
    refine zw_3 zr_60_14 rfl ?_
    refine zw_push zr_60_15 ?_
    refine zw_18 zr_60_16 (by omega) ?_
    refine zw_3 zr_60_17 rfl ?_
    refine zw_16 zr_60_18 (by omega) ?_
    refine zw_48 (c := 4) (len := 40) zr_60_19 rfl rfl (by omega) (by omega) ?_
    intro x3 ex3
    have bx3 := ib_4 hI0 (k := (((a0 * 4) + 0)).toNat) (by omega)
    rw [← ex3] at bx3
    have qx3 : x3 = F4 (((a0 * 4) + 0)).toNat := by rw [← hG4]; exact ex3
    clear ex3
    refine zw_16 zr_60_20 (by omega) ?_
    refine zw_9 (L' := [(2, 1), (0, a0), (0, (0 + x3)), (0, 0)]) zr_60_21 (Nat.le_of_ble_eq_true rfl) rfl ?_
    refine zw_15 (c := 1) (L' := [(2, 1), (0, a0), (0, (0 + x3)), (0, (0 + 1))]) zr_60_22 rfl (by decide) (by omega) rfl ?_
    refine zw_42 zr_60_25 ?_
    refine zw_3 zr_60_4 rfl ?_
    refine zw_push zr_60_5 ?_
    refine zw_41_3 zr_60_6 ?_ ?_
    · intro h4; omega
    · intro h5
      refine zw_3 zr_60_9 rfl ?_
      refine zw_7 zr_60_10 rfl ?_
      refine zw_46r (s := 4) zr_60_11 rfl rfl rfl rfl ?_
      refine zw_3 zr_60_14 rfl ?_
      refine zw_push zr_60_15 ?_
      refine zw_18 zr_60_16 (by omega) ?_
      refine zw_3 zr_60_17 rfl ?_
      refine zw_16 zr_60_18 (by omega) ?_
      refine zw_48 (c := 4) (len := 40) zr_60_19 rfl rfl (by omega) (by omega) ?_
      intro x6 ex6
      have bx6 := ib_4 hI0 (k := (((a0 * 4) + (0 + 1))).toNat) (by omega)
      rw [← ex6] at bx6
      have qx6 : x6 = F4 (((a0 * 4) + (0 + 1))).toNat := by rw [← hG4]; exact ex6
      clear ex6
      refine zw_16 zr_60_20 (by omega) ?_
      refine zw_9 (L' := [(2, 1), (0, a0), (0, ((0 + x3) + x6)), (0, (0 + 1))]) zr_60_21 (Nat.le_of_ble_eq_true rfl) rfl ?_
      refine zw_15 (c := 1) (L' := [(2, 1), (0, a0), (0, ((0 + x3) + x6)), (0, ((0 + 1) + 1))]) zr_60_22 rfl (by decide) (by omega) rfl ?_
      refine zw_42 zr_60_25 ?_
      refine zw_3 zr_60_4 rfl ?_
      refine zw_push zr_60_5 ?_
      refine zw_41_3 zr_60_6 ?_ ?_
      · intro h7; omega
      · intro h8
        refine zw_3 zr_60_9 rfl ?_
        refine zw_7 zr_60_10 rfl ?_
        refine zw_46r (s := 4) zr_60_11 rfl rfl rfl rfl ?_
        refine zw_3 zr_60_14 rfl ?_
        refine zw_push zr_60_15 ?_
        refine zw_18 zr_60_16 (by omega) ?_
        refine zw_3 zr_60_17 rfl ?_
        refine zw_16 zr_60_18 (by omega) ?_
        refine zw_48 (c := 4) (len := 40) zr_60_19 rfl rfl (by omega) (by omega) ?_
        intro x9 ex9
        have bx9 := ib_4 hI0 (k := (((a0 * 4) + ((0 + 1) + 1))).toNat) (by omega)
        rw [← ex9] at bx9
        have qx9 : x9 = F4 (((a0 * 4) + ((0 + 1) + 1))).toNat := by rw [← hG4]; exact ex9
        clear ex9
        refine zw_16 zr_60_20 (by omega) ?_
        refine zw_9 (L' := [(2, 1), (0, a0), (0, (((0 + x3) + x6) + x9)), (0, ((0 + 1) + 1))]) zr_60_21 (Nat.le_of_ble_eq_true rfl) rfl ?_
        refine zw_15 (c := 1) (L' := [(2, 1), (0, a0), (0, (((0 + x3) + x6) + x9)), (0, (((0 + 1) + 1) + 1))]) zr_60_22 rfl (by decide) (by omega) rfl ?_
        refine zw_42 zr_60_25 ?_
        refine zw_3 zr_60_4 rfl ?_
        refine zw_push zr_60_5 ?_
        refine zw_41_3 zr_60_6 ?_ ?_
        · intro h10; omega
        · intro h11
          refine zw_3 zr_60_9 rfl ?_
          refine zw_7 zr_60_10 rfl ?_
          refine zw_46r (s := 4) zr_60_11 rfl rfl rfl rfl ?_
          refine zw_3 zr_60_14 rfl ?_
          refine zw_push zr_60_15 ?_
          refine zw_18 zr_60_16 (by omega) ?_
          refine zw_3 zr_60_17 rfl ?_
          refine zw_16 zr_60_18 (by omega) ?_
          refine zw_48 (c := 4) (len := 40) zr_60_19 rfl rfl (by omega) (by omega) ?_
          intro x12 ex12
          have bx12 := ib_4 hI0 (k := (((a0 * 4) + (((0 + 1) + 1) + 1))).toNat) (by omega)
          rw [← ex12] at bx12
          have qx12 : x12 = F4 (((a0 * 4) + (((0 + 1) + 1) + 1))).toNat := by rw [← hG4]; exact ex12
          clear ex12
          refine zw_16 zr_60_20 (by omega) ?_
          refine zw_9 (L' := [(2, 1), (0, a0), (0, ((((0 + x3) + x6) + x9) + x12)), (0, (((0 + 1) + 1) + 1))]) zr_60_21 (Nat.le_of_ble_eq_true rfl) rfl ?_
          refine zw_15 (c := 1) (L' := [(2, 1), (0, a0), (0, ((((0 + x3) + x6) + x9) + x12)), (0, ((((0 + 1) + 1) + 1) + 1))]) zr_60_22 rfl (by decide) (by omega) rfl ?_
          refine zw_42 zr_60_25 ?_
          refine zw_3 zr_60_4 rfl ?_
          refine zw_push zr_60_5 ?_
          refine zw_41_3 zr_60_6 ?_ ?_
          · intro h13
            refine zw_3 zr_60_28 rfl ?_
            refine zw_R zr_60_29 (by decide) zm_60 (v := (0, ((((0 + x3) + x6) + x9) + x12))) rfl ?_
            rw [← hQ]; exact ⟨_, rfl, by omega, by omega, rfl, by omega⟩
          · intro h15; omega
