abbrev W_130 : List (Nat × Nat) := [(13, 1000)]
set_option maxHeartbeats 8000000 in
theorem th_130 {E : zE} {d : Nat} {m0 : zM} {a0 : Int} {a1 : Int} {F13 : Nat → Int} (hd : 3 ≤ d) (hI0 : zInv m0) (hG13 : m0 13 = F13) (ha0 : (-2147483648) ≤ a0 ∧ a0 ≤ 2147483647) (ha1 : (-2147483648) ≤ a1 ∧ a1 ≤ 2147483647) : zC E d 130 [(2, 0), (0, a0), (0, a1)] m0 (fun v m' => ∃ r : Int, v = (0, r) ∧ (-2) ≤ r ∧ r ≤ 9 ∧ zInv m' ∧ zFr W_130 m0 m' ∧ ((r = -2 ∧ (a0 < 0 ∨ 3 < a0 ∨ a1 < 1 ∨ 9 < a1)) ∨ (0 ≤ a0 ∧ a0 ≤ 3 ∧ 1 ≤ a1 ∧ a1 ≤ 9 ∧ 0 ≤ r ∧ r = F13 a0.toNat)) ∧ (m' 13 = if 0 ≤ r then zPt F13 a0.toNat a1 else F13)) := by
  have hF0 : zFr W_130 m0 m0 := zFr.rfl
  generalize hQ : (fun (v : zV) (m' : zM) => ∃ r : Int, v = (0, r) ∧ (-2) ≤ r ∧ r ≤ 9 ∧ zInv m' ∧ zFr W_130 m0 m' ∧ ((r = -2 ∧ (a0 < 0 ∨ 3 < a0 ∨ a1 < 1 ∨ 9 < a1)) ∨ (0 ≤ a0 ∧ a0 ≤ 3 ∧ 1 ≤ a1 ∧ a1 ≤ 9 ∧ 0 ≤ r ∧ r = F13 a0.toNat)) ∧ (m' 13 = if 0 ≤ r then zPt F13 a0.toNat a1 else F13)) = Q
  show zW E d 130 0 [(2, 0), (0, a0), (0, a1), (9, 0)] [] m0 Q
  refine zw_3 zr_130_0 rfl ?_
  refine zw_C zr_130_1 (Or.inr rfl) zm_128 rfl rfl ⟨Nat.le_of_ble_eq_true rfl, Nat.le_of_ble_eq_true rfl, Nat.le_of_ble_eq_true rfl, rfl, by decide⟩ (by omega) (P := (fun v m' => zW E (d) 130 4 [(2, 0), (0, a0), (0, a1), (9, 0)] (if v.1 = 9 then [] else v :: []) m' Q)) ?_ (fun _ _ h => h)
  generalize hQ1 : (fun v m' => zW E (d) 130 4 [(2, 0), (0, a0), (0, a1), (9, 0)] (if v.1 = 9 then [] else v :: []) m' Q) = Q1
  show zW E (d - 1) 128 0 [(0, a0)] [] m0 Q1
  refine zw_3 zr_128_0 rfl ?_
  refine zw_push zr_128_1 ?_
  refine zw_push zr_128_2 ?_
  refine zw_C zr_128_3 (Or.inr rfl) zm_100 rfl rfl ⟨Nat.le_of_ble_eq_true rfl, Nat.le_of_ble_eq_true rfl, Nat.le_of_ble_eq_true rfl, rfl, by decide⟩ (by omega) (P := (fun v m' => zW E (d - 1) 128 6 [(0, a0)] (if v.1 = 9 then [] else v :: []) m' Q1)) ?_ (fun _ _ h => h)
  generalize hQ2 : (fun v m' => zW E (d - 1) 128 6 [(0, a0)] (if v.1 = 9 then [] else v :: []) m' Q1) = Q2
  show zW E (d - 1 - 1) 100 0 [(0, a0), (0, 0), (0, 3)] [] m0 Q2
  refine zw_3 zr_100_0 rfl ?_
  refine zw_3 zr_100_1 rfl ?_
  refine zw_41_0 zr_100_2 ?_ ?_
  · intro h1
    refine zw_push zr_100_14 ?_
    refine zw_R zr_100_15 (by decide) zm_100 (v := (0, 0)) (zRetB (by omega)) ?_
    rw [← hQ2]
    show zW E (d - 1) 128 6 [(0, a0)] [(0, 0)] m0 Q1
    refine zw_R zr_128_6 (by decide) zm_128 (v := (0, 0)) (zRetB (by omega)) ?_
    rw [← hQ1]
    show zW E (d) 130 4 [(2, 0), (0, a0), (0, a1), (9, 0)] [(0, 0)] m0 Q
    refine zw_40_1 zr_130_4 ?_ ?_
    · intro h2
      refine zw_push zr_130_17 ?_
      refine zw_R zr_130_19 (by decide) zm_130 (v := (0, (-2))) rfl ?_
      rw [← hQ]; exact ⟨_, rfl, by omega, by omega, hI0, hF0, by omega, by rw [hG13]; first | exact (if_neg (by omega)).symm | exact (if_pos (by omega)).symm⟩
    · intro h5; omega
  · intro h6
    refine zw_3 zr_100_5 rfl ?_
    refine zw_3 zr_100_6 rfl ?_
    refine zw_41_2 zr_100_7 ?_ ?_
    · intro h7
      refine zw_push zr_100_14 ?_
      refine zw_R zr_100_15 (by decide) zm_100 (v := (0, 0)) (zRetB (by omega)) ?_
      rw [← hQ2]
      show zW E (d - 1) 128 6 [(0, a0)] [(0, 0)] m0 Q1
      refine zw_R zr_128_6 (by decide) zm_128 (v := (0, 0)) (zRetB (by omega)) ?_
      rw [← hQ1]
      show zW E (d) 130 4 [(2, 0), (0, a0), (0, a1), (9, 0)] [(0, 0)] m0 Q
      refine zw_40_1 zr_130_4 ?_ ?_
      · intro h8
        refine zw_push zr_130_17 ?_
        refine zw_R zr_130_19 (by decide) zm_130 (v := (0, (-2))) rfl ?_
        rw [← hQ]; exact ⟨_, rfl, by omega, by omega, hI0, hF0, by omega, by rw [hG13]; first | exact (if_neg (by omega)).symm | exact (if_pos (by omega)).symm⟩
      · intro h11; omega
    · intro h12
      refine zw_push zr_100_10 ?_
      refine zw_42 zr_100_11 ?_
      refine zw_R zr_100_15 (by decide) zm_100 (v := (0, 1)) (zRetB (by omega)) ?_
      rw [← hQ2]
      show zW E (d - 1) 128 6 [(0, a0)] [(0, 1)] m0 Q1
      refine zw_R zr_128_6 (by decide) zm_128 (v := (0, 1)) (zRetB (by omega)) ?_
      rw [← hQ1]
      show zW E (d) 130 4 [(2, 0), (0, a0), (0, a1), (9, 0)] [(0, 1)] m0 Q
      refine zw_40_1 zr_130_4 ?_ ?_
      · intro h13; omega
      · intro h14
        refine zw_3 zr_130_7 rfl ?_
        refine zw_push zr_130_8 ?_
        refine zw_push zr_130_9 ?_
        refine zw_C zr_130_11 (Or.inr rfl) zm_100 rfl rfl ⟨Nat.le_of_ble_eq_true rfl, Nat.le_of_ble_eq_true rfl, Nat.le_of_ble_eq_true rfl, rfl, by decide⟩ (by omega) (P := (fun v m' => zW E (d) 130 14 [(2, 0), (0, a0), (0, a1), (9, 0)] (if v.1 = 9 then [] else v :: []) m' Q)) ?_ (fun _ _ h => h)
        generalize hQ1 : (fun v m' => zW E (d) 130 14 [(2, 0), (0, a0), (0, a1), (9, 0)] (if v.1 = 9 then [] else v :: []) m' Q) = Q1
        show zW E (d - 1) 100 0 [(0, a1), (0, 1), (0, 9)] [] m0 Q1
        refine zw_3 zr_100_0 rfl ?_
        refine zw_3 zr_100_1 rfl ?_
        refine zw_41_0 zr_100_2 ?_ ?_
        · intro h15
          refine zw_push zr_100_14 ?_
          refine zw_R zr_100_15 (by decide) zm_100 (v := (0, 0)) (zRetB (by omega)) ?_
          rw [← hQ1]
          show zW E (d) 130 14 [(2, 0), (0, a0), (0, a1), (9, 0)] [(0, 0)] m0 Q
          refine zw_40_4 zr_130_14 ?_ ?_
          · intro h16; omega
          · intro h17
            refine zw_push zr_130_17 ?_
            refine zw_R zr_130_19 (by decide) zm_130 (v := (0, (-2))) rfl ?_
            rw [← hQ]; exact ⟨_, rfl, by omega, by omega, hI0, hF0, by omega, by rw [hG13]; first | exact (if_neg (by omega)).symm | exact (if_pos (by omega)).symm⟩
        · intro h20
          refine zw_3 zr_100_5 rfl ?_
          refine zw_3 zr_100_6 rfl ?_
          refine zw_41_2 zr_100_7 ?_ ?_
          · intro h21
            refine zw_push zr_100_14 ?_
            refine zw_R zr_100_15 (by decide) zm_100 (v := (0, 0)) (zRetB (by omega)) ?_
            rw [← hQ1]
            show zW E (d) 130 14 [(2, 0), (0, a0), (0, a1), (9, 0)] [(0, 0)] m0 Q
            refine zw_40_4 zr_130_14 ?_ ?_
            · intro h22; omega
            · intro h23
              refine zw_push zr_130_17 ?_
              refine zw_R zr_130_19 (by decide) zm_130 (v := (0, (-2))) rfl ?_
              rw [← hQ]; exact ⟨_, rfl, by omega, by omega, hI0, hF0, by omega, by rw [hG13]; first | exact (if_neg (by omega)).symm | exact (if_pos (by omega)).symm⟩
          · intro h26
            refine zw_push zr_100_10 ?_
            refine zw_42 zr_100_11 ?_
            refine zw_R zr_100_15 (by decide) zm_100 (v := (0, 1)) (zRetB (by omega)) ?_
            rw [← hQ1]
            show zW E (d) 130 14 [(2, 0), (0, a0), (0, a1), (9, 0)] [(0, 1)] m0 Q
            refine zw_40_4 zr_130_14 ?_ ?_
            · intro h27
              refine zw_7 zr_130_20 rfl ?_
              refine zw_46r (s := 1) zr_130_21 rfl rfl rfl rfl ?_
              refine zw_46r (s := 13) zr_130_24 rfl rfl rfl rfl ?_
              refine zw_3 zr_130_27 rfl ?_
              refine zw_48 (c := 13) (len := 4) zr_130_28 rfl rfl (by omega) (by omega) ?_
              intro x28 ex28
              have bx28 := ib_13 hI0 (k := (a0).toNat) (by omega)
              rw [← ex28] at bx28
              have qx28 : x28 = F13 (a0).toNat := by rw [← hG13]; exact ex28
              clear ex28
              refine zw_9 (L' := [(2, 0), (0, a0), (0, a1), (0, x28)]) zr_130_29 (Nat.le_of_ble_eq_true rfl) rfl ?_
              refine zw_7 zr_130_30 rfl ?_
              refine zw_46r (s := 1) zr_130_31 rfl rfl rfl rfl ?_
              refine zw_46r (s := 13) zr_130_34 rfl rfl rfl rfl ?_
              refine zw_3 zr_130_37 rfl ?_
              refine zw_3 zr_130_38 rfl ?_
              refine zw_49 (c := 13) (len := 4) zr_130_39 rfl rfl (by omega) (by omega) ?_
              intro m29 em29
              have hIm29 : zInv m29 := by rw [em29]; exact iu_13 hI0 (by omega)
              have hFm29 : zFr W_130 m0 m29 := by rw [em29]; exact hF0.any rfl
              have fm29_13 : m29 13 = zPt F13 ((a0).toNat) a1 := by rw [em29]; exact (zUp_ff (m := m0)).trans (congrArg (fun q => zPt q ((a0).toNat) a1) hG13)
              clear em29
              refine zw_3 zr_130_40 rfl ?_
              refine zw_R zr_130_41 (by decide) zm_130 (v := (0, x28)) rfl ?_
              rw [← hQ]; exact ⟨_, rfl, by omega, by omega, hIm29, hFm29, by omega, by rw [fm29_13]; first | exact (if_neg (by omega)).symm | exact (if_pos (by omega)).symm⟩
            · intro h32; omega

abbrev W_205 : List (Nat × Nat) := [(70, 1000)]
set_option maxHeartbeats 8000000 in
theorem th_205 {E : zE} {d : Nat} {m0 : zM} {a0 : Int} {a1 : Int} {F70 : Nat → Int} (hd : 3 ≤ d) (hI0 : zInv m0) (hG70 : m0 70 = F70) (ha0 : (-2147483648) ≤ a0 ∧ a0 ≤ 2147483647) (ha1 : (-2147483648) ≤ a1 ∧ a1 ≤ 2147483647) : zC E d 205 [(2, 69), (0, a0), (0, a1)] m0 (fun v m' => ∃ r : Int, v = (0, r) ∧ (-2) ≤ r ∧ r ≤ 9 ∧ zInv m' ∧ zFr W_205 m0 m' ∧ ((r = -2 ∧ (a0 < 0 ∨ 3 < a0 ∨ a1 < 1 ∨ 9 < a1)) ∨ (0 ≤ a0 ∧ a0 ≤ 3 ∧ 1 ≤ a1 ∧ a1 ≤ 9 ∧ 0 ≤ r ∧ r = F70 (818 + a0).toNat)) ∧ (m' 70 = if 0 ≤ r then zPt F70 (818 + a0).toNat a1 else F70)) := by
  have hF0 : zFr W_205 m0 m0 := zFr.rfl
  generalize hQ : (fun (v : zV) (m' : zM) => ∃ r : Int, v = (0, r) ∧ (-2) ≤ r ∧ r ≤ 9 ∧ zInv m' ∧ zFr W_205 m0 m' ∧ ((r = -2 ∧ (a0 < 0 ∨ 3 < a0 ∨ a1 < 1 ∨ 9 < a1)) ∨ (0 ≤ a0 ∧ a0 ≤ 3 ∧ 1 ≤ a1 ∧ a1 ≤ 9 ∧ 0 ≤ r ∧ r = F70 (818 + a0).toNat)) ∧ (m' 70 = if 0 ≤ r then zPt F70 (818 + a0).toNat a1 else F70)) = Q
  show zW E d 205 0 [(2, 69), (0, a0), (0, a1), (9, 0)] [] m0 Q
  refine zw_3 zr_205_0 rfl ?_
  refine zw_C zr_205_1 (Or.inr rfl) zm_148 rfl rfl ⟨Nat.le_of_ble_eq_true rfl, Nat.le_of_ble_eq_true rfl, Nat.le_of_ble_eq_true rfl, rfl, by decide⟩ (by omega) (P := (fun v m' => zW E (d) 205 4 [(2, 69), (0, a0), (0, a1), (9, 0)] (if v.1 = 9 then [] else v :: []) m' Q)) ?_ (fun _ _ h => h)
  generalize hQ1 : (fun v m' => zW E (d) 205 4 [(2, 69), (0, a0), (0, a1), (9, 0)] (if v.1 = 9 then [] else v :: []) m' Q) = Q1
  show zW E (d - 1) 148 0 [(0, a0)] [] m0 Q1
  refine zw_3 zr_148_0 rfl ?_
  refine zw_36 zr_148_1 ?_
  refine zw_push zr_148_2 ?_
  refine zw_push zr_148_3 ?_
  refine zw_C zr_148_6 (Or.inr rfl) zm_140 rfl rfl ⟨Nat.le_of_ble_eq_true rfl, Nat.le_of_ble_eq_true rfl, Nat.le_of_ble_eq_true rfl, rfl, by decide⟩ (by omega) (P := (fun v m' => zW E (d - 1) 148 9 [(0, a0)] (if v.1 = 9 then [] else v :: []) m' Q1)) ?_ (fun _ _ h => h)
  generalize hQ2 : (fun v m' => zW E (d - 1) 148 9 [(0, a0)] (if v.1 = 9 then [] else v :: []) m' Q1) = Q2
  show zW E (d - 1 - 1) 140 0 [(1, a0), (9, 0), (1, 0), (9, 0), (1, 3), (9, 0)] [] m0 Q2
  refine zw_5 zr_140_0 rfl ?_
  refine zw_5 zr_140_1 rfl ?_
  refine zw_39_0 zr_140_2 zr_140_3 ?_ ?_
  · intro h1
    refine zw_push zr_140_17 ?_
    refine zw_R zr_140_18 (by decide) zm_140 (v := (0, 0)) (zRetB (by omega)) ?_
    rw [← hQ2]
    show zW E (d - 1) 148 9 [(0, a0)] [(0, 0)] m0 Q1
    refine zw_R zr_148_9 (by decide) zm_148 (v := (0, 0)) (zRetB (by omega)) ?_
    rw [← hQ1]
    show zW E (d) 205 4 [(2, 69), (0, a0), (0, a1), (9, 0)] [(0, 0)] m0 Q
    refine zw_40_1 zr_205_4 ?_ ?_
    · intro h2
      refine zw_push zr_205_19 ?_
      refine zw_R zr_205_21 (by decide) zm_205 (v := (0, (-2))) rfl ?_
      rw [← hQ]; exact ⟨_, rfl, by omega, by omega, hI0, hF0, by omega, by rw [hG70]; first | exact (if_neg (by omega)).symm | exact (if_pos (by omega)).symm⟩
    · intro h5; omega
  · intro h6
    refine zw_5 zr_140_6 rfl ?_
    refine zw_6 zr_140_7 rfl ?_
    refine zw_39_2 zr_140_9 zr_140_10 ?_ ?_
    · intro h7
      refine zw_push zr_140_17 ?_
      refine zw_R zr_140_18 (by decide) zm_140 (v := (0, 0)) (zRetB (by omega)) ?_
      rw [← hQ2]
      show zW E (d - 1) 148 9 [(0, a0)] [(0, 0)] m0 Q1
      refine zw_R zr_148_9 (by decide) zm_148 (v := (0, 0)) (zRetB (by omega)) ?_
      rw [← hQ1]
      show zW E (d) 205 4 [(2, 69), (0, a0), (0, a1), (9, 0)] [(0, 0)] m0 Q
      refine zw_40_1 zr_205_4 ?_ ?_
      · intro h8
        refine zw_push zr_205_19 ?_
        refine zw_R zr_205_21 (by decide) zm_205 (v := (0, (-2))) rfl ?_
        rw [← hQ]; exact ⟨_, rfl, by omega, by omega, hI0, hF0, by omega, by rw [hG70]; first | exact (if_neg (by omega)).symm | exact (if_pos (by omega)).symm⟩
      · intro h11; omega
    · intro h12
      refine zw_push zr_140_13 ?_
      refine zw_42 zr_140_14 ?_
      refine zw_R zr_140_18 (by decide) zm_140 (v := (0, 1)) (zRetB (by omega)) ?_
      rw [← hQ2]
      show zW E (d - 1) 148 9 [(0, a0)] [(0, 1)] m0 Q1
      refine zw_R zr_148_9 (by decide) zm_148 (v := (0, 1)) (zRetB (by omega)) ?_
      rw [← hQ1]
      show zW E (d) 205 4 [(2, 69), (0, a0), (0, a1), (9, 0)] [(0, 1)] m0 Q
      refine zw_40_1 zr_205_4 ?_ ?_
      · intro h13; omega
      · intro h14
        refine zw_3 zr_205_7 rfl ?_
        refine zw_36 zr_205_8 ?_
        refine zw_push zr_205_9 ?_
        refine zw_push zr_205_10 ?_
        refine zw_C zr_205_13 (Or.inr rfl) zm_140 rfl rfl ⟨Nat.le_of_ble_eq_true rfl, Nat.le_of_ble_eq_true rfl, Nat.le_of_ble_eq_true rfl, rfl, by decide⟩ (by omega) (P := (fun v m' => zW E (d) 205 16 [(2, 69), (0, a0), (0, a1), (9, 0)] (if v.1 = 9 then [] else v :: []) m' Q)) ?_ (fun _ _ h => h)
        generalize hQ1 : (fun v m' => zW E (d) 205 16 [(2, 69), (0, a0), (0, a1), (9, 0)] (if v.1 = 9 then [] else v :: []) m' Q) = Q1
        show zW E (d - 1) 140 0 [(1, a1), (9, 0), (1, 1), (9, 0), (1, 9), (9, 0)] [] m0 Q1
        refine zw_5 zr_140_0 rfl ?_
        refine zw_5 zr_140_1 rfl ?_
        refine zw_39_0 zr_140_2 zr_140_3 ?_ ?_
        · intro h15
          refine zw_push zr_140_17 ?_
          refine zw_R zr_140_18 (by decide) zm_140 (v := (0, 0)) (zRetB (by omega)) ?_
          rw [← hQ1]
          show zW E (d) 205 16 [(2, 69), (0, a0), (0, a1), (9, 0)] [(0, 0)] m0 Q
          refine zw_40_4 zr_205_16 ?_ ?_
          · intro h16; omega
          · intro h17
            refine zw_push zr_205_19 ?_
            refine zw_R zr_205_21 (by decide) zm_205 (v := (0, (-2))) rfl ?_
            rw [← hQ]; exact ⟨_, rfl, by omega, by omega, hI0, hF0, by omega, by rw [hG70]; first | exact (if_neg (by omega)).symm | exact (if_pos (by omega)).symm⟩
        · intro h20
          refine zw_5 zr_140_6 rfl ?_
          refine zw_6 zr_140_7 rfl ?_
          refine zw_39_2 zr_140_9 zr_140_10 ?_ ?_
          · intro h21
            refine zw_push zr_140_17 ?_
            refine zw_R zr_140_18 (by decide) zm_140 (v := (0, 0)) (zRetB (by omega)) ?_
            rw [← hQ1]
            show zW E (d) 205 16 [(2, 69), (0, a0), (0, a1), (9, 0)] [(0, 0)] m0 Q
            refine zw_40_4 zr_205_16 ?_ ?_
            · intro h22; omega
            · intro h23
              refine zw_push zr_205_19 ?_
              refine zw_R zr_205_21 (by decide) zm_205 (v := (0, (-2))) rfl ?_
              rw [← hQ]; exact ⟨_, rfl, by omega, by omega, hI0, hF0, by omega, by rw [hG70]; first | exact (if_neg (by omega)).symm | exact (if_pos (by omega)).symm⟩
          · intro h26
            refine zw_push zr_140_13 ?_
            refine zw_42 zr_140_14 ?_
            refine zw_R zr_140_18 (by decide) zm_140 (v := (0, 1)) (zRetB (by omega)) ?_
            rw [← hQ1]
            show zW E (d) 205 16 [(2, 69), (0, a0), (0, a1), (9, 0)] [(0, 1)] m0 Q
            refine zw_40_4 zr_205_16 ?_ ?_
            · intro h27
              refine zw_7 zr_205_22 rfl ?_
              refine zw_46r (s := 70) zr_205_23 rfl rfl rfl rfl ?_
              refine zw_push zr_205_26 ?_
              refine zw_3 zr_205_29 rfl ?_
              refine zw_16 zr_205_30 (by omega) ?_
              refine zw_48 (c := 70) (len := 826) zr_205_31 rfl rfl (by omega) (by omega) ?_
              intro x28 ex28
              have bx28 := ib_70_weight hI0 (k := ((818 + a0)).toNat) (by omega)
              rw [← ex28] at bx28
              have qx28 : x28 = F70 ((818 + a0)).toNat := by rw [← hG70]; exact ex28
              clear ex28
              refine zw_9 (L' := [(2, 69), (0, a0), (0, a1), (0, x28)]) zr_205_32 (Nat.le_of_ble_eq_true rfl) rfl ?_
              refine zw_7 zr_205_33 rfl ?_
              refine zw_46r (s := 70) zr_205_34 rfl rfl rfl rfl ?_
              refine zw_push zr_205_37 ?_
              refine zw_3 zr_205_40 rfl ?_
              refine zw_16 zr_205_41 (by omega) ?_
              refine zw_3 zr_205_42 rfl ?_
              refine zw_49 (c := 70) (len := 826) zr_205_43 rfl rfl (by omega) (by omega) ?_
              intro m29 em29
              have hIm29 : zInv m29 := by rw [em29]; exact iu_70_weight hI0 (by omega) (by omega)
              have hFm29 : zFr W_205 m0 m29 := by rw [em29]; exact hF0.any rfl
              have fm29_70 : m29 70 = zPt F70 (((818 + a0)).toNat) a1 := by rw [em29]; exact (zUp_ff (m := m0)).trans (congrArg (fun q => zPt q (((818 + a0)).toNat) a1) hG70)
              clear em29
              refine zw_3 zr_205_44 rfl ?_
              refine zw_R zr_205_45 (by decide) zm_205 (v := (0, x28)) rfl ?_
              rw [← hQ]; exact ⟨_, rfl, by omega, by omega, hIm29, hFm29, by omega, by rw [fm29_70]; first | exact (if_neg (by omega)).symm | exact (if_pos (by omega)).symm⟩
            · intro h32; omega

set_option maxHeartbeats 8000000 in
theorem th_60 {E : zE} {d : Nat} {m0 : zM} {a0 : Int} {F4 : Nat → Int} (hd : 1 ≤ d) (hI0 : zInv m0) (hG4 : m0 4 = F4) (ha0 : 0 ≤ a0 ∧ a0 ≤ 9) : zC E d 60 [(2, 1), (0, a0)] m0 (fun v m' => ∃ r : Int, v = (0, r) ∧ 0 ≤ r ∧ r ≤ 396 ∧ m0 = m' ∧ (r = F4 (a0 * 4 + 0).toNat + F4 (a0 * 4 + (0 + 1)).toNat + F4 (a0 * 4 + ((0 + 1) + 1)).toNat + F4 (a0 * 4 + (((0 + 1) + 1) + 1)).toNat)) := by
  generalize hQ : (fun (v : zV) (m' : zM) => ∃ r : Int, v = (0, r) ∧ 0 ≤ r ∧ r ≤ 396 ∧ m0 = m' ∧ (r = F4 (a0 * 4 + 0).toNat + F4 (a0 * 4 + (0 + 1)).toNat + F4 (a0 * 4 + ((0 + 1) + 1)).toNat + F4 (a0 * 4 + (((0 + 1) + 1) + 1)).toNat)) = Q
  show zW E d 60 0 [(2, 1), (0, a0), (9, 0), (9, 0)] [] m0 Q
  refine zw_push zr_60_0 ?_
  refine zw_9 (L' := [(2, 1), (0, a0), (0, 0), (9, 0)]) zr_60_1 (Nat.le_of_ble_eq_true rfl) rfl ?_
  refine zw_push zr_60_2 ?_
  refine zw_9 (L' := [(2, 1), (0, a0), (0, 0), (0, 0)]) zr_60_3 (Nat.le_of_ble_eq_true rfl) rfl ?_
  refine zw_3 zr_60_4 rfl ?_
  refine zw_push zr_60_5 ?_
  refine zw_41_3 zr_60_6 ?_ ?_
  · intro h1; omega
  · intro h2
    refine zw_3 zr_60_9 rfl ?_
    refine zw_7 zr_60_10 rfl ?_
    refine zw_46r (s := 4) zr_60_11 rfl rfl rfl rfl ?_
    refine zw_3 zr_60_14 rfl ?_
    refine zw_push zr_60_15 ?_
    refine zw_18 zr_60_16 (by omega) ?_
    refine zw_3 zr_60_17 rfl ?_
    refine zw_16 zr_60_18 (by omega) ?_
    refine zw_48 (c := 4) (len := 40) zr_60_19 rfl rfl (by omega) (by omega) ?_
    intro x3 ex3
    have bx3 := ib_4 hI0 (k := (((a0 * 4) + 0)).toNat) (by omega)
    rw [← ex3] at bx3
    have qx3 : x3 = F4 (((a0 * 4) + 0)).toNat := by rw [← hG4]; exact ex3
    clear ex3
    refine zw_16 zr_60_20 (by omega) ?_
    refine zw_9 (L' := [(2, 1), (0, a0), (0, (0 + x3)), (0, 0)]) zr_60_21 (Nat.le_of_ble_eq_true rfl) rfl ?_
    refine zw_15 (c := 1) (L' := [(2, 1), (0, a0), (0, (0 + x3)), (0, (0 + 1))]) zr_60_22 rfl (by decide) (by omega) rfl ?_
    refine zw_42 zr_60_25 ?_
    refine zw_3 zr_60_4 rfl ?_
    refine zw_push zr_60_5 ?_
    refine zw_41_3 zr_60_6 ?_ ?_
    · intro h4; omega
    · intro h5
      refine zw_3 zr_60_9 rfl ?_
      refine zw_7 zr_60_10 rfl ?_
      refine zw_46r (s := 4) zr_60_11 rfl rfl rfl rfl ?_
      refine zw_3 zr_60_14 rfl ?_
      refine zw_push zr_60_15 ?_
      refine zw_18 zr_60_16 (by omega) ?_
      refine zw_3 zr_60_17 rfl ?_
      refine zw_16 zr_60_18 (by omega) ?_
      refine zw_48 (c := 4) (len := 40) zr_60_19 rfl rfl (by omega) (by omega) ?_
      intro x6 ex6
      have bx6 := ib_4 hI0 (k := (((a0 * 4) + (0 + 1))).toNat) (by omega)
      rw [← ex6] at bx6
      have qx6 : x6 = F4 (((a0 * 4) + (0 + 1))).toNat := by rw [← hG4]; exact ex6
      clear ex6
      refine zw_16 zr_60_20 (by omega) ?_
      refine zw_9 (L' := [(2, 1), (0, a0), (0, ((0 + x3) + x6)), (0, (0 + 1))]) zr_60_21 (Nat.le_of_ble_eq_true rfl) rfl ?_
      refine zw_15 (c := 1) (L' := [(2, 1), (0, a0), (0, ((0 + x3) + x6)), (0, ((0 + 1) + 1))]) zr_60_22 rfl (by decide) (by omega) rfl ?_
      refine zw_42 zr_60_25 ?_
      refine zw_3 zr_60_4 rfl ?_
      refine zw_push zr_60_5 ?_
      refine zw_41_3 zr_60_6 ?_ ?_
      · intro h7; omega
      · intro h8
        refine zw_3 zr_60_9 rfl ?_
        refine zw_7 zr_60_10 rfl ?_
        refine zw_46r (s := 4) zr_60_11 rfl rfl rfl rfl ?_
        refine zw_3 zr_60_14 rfl ?_
        refine zw_push zr_60_15 ?_
        refine zw_18 zr_60_16 (by omega) ?_
        refine zw_3 zr_60_17 rfl ?_
        refine zw_16 zr_60_18 (by omega) ?_
        refine zw_48 (c := 4) (len := 40) zr_60_19 rfl rfl (by omega) (by omega) ?_
        intro x9 ex9
        have bx9 := ib_4 hI0 (k := (((a0 * 4) + ((0 + 1) + 1))).toNat) (by omega)
        rw [← ex9] at bx9
        have qx9 : x9 = F4 (((a0 * 4) + ((0 + 1) + 1))).toNat := by rw [← hG4]; exact ex9
        clear ex9
        refine zw_16 zr_60_20 (by omega) ?_
        refine zw_9 (L' := [(2, 1), (0, a0), (0, (((0 + x3) + x6) + x9)), (0, ((0 + 1) + 1))]) zr_60_21 (Nat.le_of_ble_eq_true rfl) rfl ?_
        refine zw_15 (c := 1) (L' := [(2, 1), (0, a0), (0, (((0 + x3) + x6) + x9)), (0, (((0 + 1) + 1) + 1))]) zr_60_22 rfl (by decide) (by omega) rfl ?_
        refine zw_42 zr_60_25 ?_
        refine zw_3 zr_60_4 rfl ?_
        refine zw_push zr_60_5 ?_
        refine zw_41_3 zr_60_6 ?_ ?_
        · intro h10; omega
        · intro h11
          refine zw_3 zr_60_9 rfl ?_
          refine zw_7 zr_60_10 rfl ?_
          refine zw_46r (s := 4) zr_60_11 rfl rfl rfl rfl ?_
          refine zw_3 zr_60_14 rfl ?_
          refine zw_push zr_60_15 ?_
          refine zw_18 zr_60_16 (by omega) ?_
          refine zw_3 zr_60_17 rfl ?_
          refine zw_16 zr_60_18 (by omega) ?_
          refine zw_48 (c := 4) (len := 40) zr_60_19 rfl rfl (by omega) (by omega) ?_
          intro x12 ex12
          have bx12 := ib_4 hI0 (k := (((a0 * 4) + (((0 + 1) + 1) + 1))).toNat) (by omega)
          rw [← ex12] at bx12
          have qx12 : x12 = F4 (((a0 * 4) + (((0 + 1) + 1) + 1))).toNat := by rw [← hG4]; exact ex12
          clear ex12
          refine zw_16 zr_60_20 (by omega) ?_
          refine zw_9 (L' := [(2, 1), (0, a0), (0, ((((0 + x3) + x6) + x9) + x12)), (0, (((0 + 1) + 1) + 1))]) zr_60_21 (Nat.le_of_ble_eq_true rfl) rfl ?_
          refine zw_15 (c := 1) (L' := [(2, 1), (0, a0), (0, ((((0 + x3) + x6) + x9) + x12)), (0, ((((0 + 1) + 1) + 1) + 1))]) zr_60_22 rfl (by decide) (by omega) rfl ?_
          refine zw_42 zr_60_25 ?_
          refine zw_3 zr_60_4 rfl ?_
          refine zw_push zr_60_5 ?_
          refine zw_41_3 zr_60_6 ?_ ?_
          · intro h13
            refine zw_3 zr_60_28 rfl ?_
            refine zw_R zr_60_29 (by decide) zm_60 (v := (0, ((((0 + x3) + x6) + x9) + x12))) rfl ?_
            rw [← hQ]; exact ⟨_, rfl, by omega, by omega, rfl, by omega⟩
          · intro h15; omega

abbrev W_131 : List (Nat × Nat) := [(42, 0), (42, 1)]
set_option maxHeartbeats 8000000 in
theorem th_131 {E : zE} {d : Nat} {m0 : zM} {a0 : Int} (hd : 3 ≤ d) (hI0 : zInv m0) (ha0 : 0 ≤ a0 ∧ a0 ≤ 9) : zC E d 131 [(2, 0), (0, a0)] m0 (fun v m' => v = (9, 0) ∧ zInv m' ∧ zFr W_131 m0 m') := by
  have hF0 : zFr W_131 m0 m0 := zFr.rfl
  generalize hQ : (fun (v : zV) (m' : zM) => v = (9, 0) ∧ zInv m' ∧ zFr W_131 m0 m') = Q
  show zW E d 131 0 [(2, 0), (0, a0), (9, 0), (9, 0), (9, 0), (9, 0), (9, 0), (9, 0), (9, 0), (9, 0)] [] m0 Q
  refine zw_push zr_131_0 ?_
  refine zw_13 (L' := [(2, 0), (0, a0), (1, 0), (9, 0), (9, 0), (9, 0), (9, 0), (9, 0), (9, 0), (9, 0)]) zr_131_1 (Nat.le_of_ble_eq_true rfl) rfl ?_
  refine zw_push zr_131_2 ?_
  refine zw_14 (L' := [(2, 0), (0, a0), (1, 0), (9, 0), (1, 1), (9, 0), (9, 0), (9, 0), (9, 0), (9, 0)]) zr_131_3 (Nat.le_of_ble_eq_true rfl) rfl ?_
  refine zw_push zr_131_5 ?_
  refine zw_10 (L' := [(2, 0), (0, a0), (1, 0), (9, 0), (1, 1), (9, 0), (0, 0), (9, 0), (9, 0), (9, 0)]) zr_131_6 (Nat.le_of_ble_eq_true rfl) rfl ?_
  refine zw_push zr_131_8 ?_
  refine zw_10 (L' := [(2, 0), (0, a0), (1, 0), (9, 0), (1, 1), (9, 0), (0, 0), (0, 0), (9, 0), (9, 0)]) zr_131_9 (Nat.le_of_ble_eq_true rfl) rfl ?_
  have lp11_6 : ∀ (nlp11_6 : Nat) (i1 i2 i3 i4 : Int) (m5 : zM), zInv m5 → zFr W_131 m0 m5 → (-9223372036854775808) ≤ i1 → i1 ≤ 9223372036854775807 → (-9223372036854775808) ≤ i2 → i2 ≤ 9223372036854775807 → (-2147483648) ≤ i3 → i3 ≤ 2147483647 → 0 ≤ i4 → i4 ≤ 4 → (4 - i4).toNat < nlp11_6 → zW E (d) 131 11 [(2, 0), (0, a0), (1, i1), (9, 0), (1, i2), (9, 0), (0, i3), (0, i4), (9, 0), (9, 0)] [] m5 Q := by
    intro nlp11_6
    induction nlp11_6 with
    | zero =>
      intros
      exact absurd (by assumption : _ < 0) (Nat.not_lt_zero _)
    | succ nlp11_6 ihlp11_6 =>
      intro i1 i2 i3 i4 m5 hIm5 hFm5 li1 ui1 li2 ui2 li3 ui3 li4 ui4 hmlp11_6
      refine zw_4 zr_131_11 rfl ?_
      refine zw_push zr_131_13 ?_
      refine zw_41_3 zr_131_14 ?_ ?_
      · intro h8
        refine zw_7 zr_131_108 rfl ?_
        refine zw_46r (s := 42) zr_131_109 rfl rfl rfl rfl ?_
        refine zw_5 zr_131_112 rfl ?_
        refine zw_6 zr_131_113 rfl ?_
        refine zw_4 zr_131_115 rfl ?_
        refine zw_36 zr_131_117 ?_
        refine zw_29h zr_131_118 ?_
        intro x9 hx9a hx9b
        refine zw_C zr_131_119 (Or.inl rfl) zm_38 rfl rfl ⟨Nat.le_of_ble_eq_true rfl, Nat.le_of_ble_eq_true rfl, Nat.le_of_ble_eq_true rfl, rfl, by decide⟩ (by omega) (th_38 (d := d - 1) (by omega) hIm5 (a0 := i1) (a1 := x9)      (by omega) (by omega) ) ?_
        rintro _ m10 ⟨rfl, hIm10, gm10⟩
        have hFm10 : zFr W_131 m0 m10 := hFm5.trans gm10 rfl
        show zW E (d) 131 122 [(2, 0), (0, a0), (1, i1), (9, 0), (1, i2), (9, 0), (0, i3), (0, i4), (9, 0), (9, 0)] [] m10 Q
        refine zw_R zr_131_122 (by decide) zm_131 (v := (9, 0)) rfl ?_
        rw [← hQ]; exact ⟨rfl, hIm10, hFm10⟩
      · intro h11
        refine zw_7 zr_131_17 rfl ?_
        refine zw_46r (s := 1) zr_131_18 rfl rfl rfl rfl ?_
        refine zw_46r (s := 3) zr_131_21 rfl rfl rfl rfl ?_
        refine zw_3 zr_131_24 rfl ?_
        refine zw_push zr_131_25 ?_
        refine zw_18 zr_131_26 (by omega) ?_
        refine zw_4 zr_131_27 rfl ?_
        refine zw_16 zr_131_29 (by omega) ?_
        refine zw_48 (c := 3) (len := 40) zr_131_30 rfl rfl (by omega) (by omega) ?_
        intro x12 ex12
        have bx12 := ib_3 hIm5 (k := (((a0 * 4) + i4)).toNat) (by omega)
        rw [← ex12] at bx12
        clear ex12
        refine zw_10 (L' := [(2, 0), (0, a0), (1, i1), (9, 0), (1, i2), (9, 0), (0, i3), (0, i4), (0, x12), (9, 0)]) zr_131_31 (Nat.le_of_ble_eq_true rfl) rfl ?_
        refine zw_7 zr_131_33 rfl ?_
        refine zw_46r (s := 1) zr_131_34 rfl rfl rfl rfl ?_
        refine zw_46r (s := 4) zr_131_37 rfl rfl rfl rfl ?_
        refine zw_3 zr_131_40 rfl ?_
        refine zw_push zr_131_41 ?_
        refine zw_18 zr_131_42 (by omega) ?_
        refine zw_4 zr_131_43 rfl ?_
        refine zw_16 zr_131_45 (by omega) ?_
        refine zw_48 (c := 4) (len := 40) zr_131_46 rfl rfl (by omega) (by omega) ?_
        intro x13 ex13
        have bx13 := ib_4 hIm5 (k := (((a0 * 4) + i4)).toNat) (by omega)
        rw [← ex13] at bx13
        clear ex13
        refine zw_10 (L' := [(2, 0), (0, a0), (1, i1), (9, 0), (1, i2), (9, 0), (0, i3), (0, i4), (0, x12), (0, x13)]) zr_131_47 (Nat.le_of_ble_eq_true rfl) rfl ?_
        refine zw_4 zr_131_49 rfl ?_
        refine zw_40_5 zr_131_51 ?_ ?_
        · intro h14
          refine zw_15 (c := 1) (L' := [(2, 0), (0, a0), (1, i1), (9, 0), (1, i2), (9, 0), (0, i3), (0, (i4 + 1)), (0, x12), (0, x13)]) zr_131_102 rfl (by decide) (by omega) rfl ?_
          refine zw_42 zr_131_105 ?_
          exact zw_less (L := [(2, 0), (0, a0), (1, i1), (9, 0), (1, i2), (9, 0), (0, i3), (0, (i4 + 1)), (9, 0), (9, 0)]) ⟨Or.inr rfl, Or.inr rfl, Or.inr rfl, Or.inl rfl, Or.inr rfl, Or.inl rfl, Or.inr rfl, Or.inr rfl, Or.inl rfl, Or.inl rfl, trivial⟩ (ihlp11_6 (i1) (i2) (i3) ((i4 + 1)) m5 hIm5 hFm5   (by omega) (by omega) (by omega) (by omega) (by omega) (by omega) (by omega) (by omega)  (by omega))
        · intro h15
          refine zw_5 zr_131_54 rfl ?_
          refine zw_4 zr_131_55 rfl ?_
          refine zw_36 zr_131_57 ?_
          refine zw_29h zr_131_58 ?_
          intro x16 hx16a hx16b
          refine zw_6 zr_131_59 rfl ?_
          refine zw_7 zr_131_61 rfl ?_
          refine zw_46r (s := 1) zr_131_62 rfl rfl rfl rfl ?_
          refine zw_46r (s := 13) zr_131_65 rfl rfl rfl rfl ?_
          refine zw_4 zr_131_68 rfl ?_
          refine zw_48 (c := 13) (len := 4) zr_131_70 rfl rfl (by omega) (by omega) ?_
          intro x17 ex17
          have bx17 := ib_13 hIm5 (k := (i4).toNat) (by omega)
          rw [← ex17] at bx17
          refine zw_36 zr_131_71 ?_
          refine zw_29h zr_131_72 ?_
          intro x18 hx18a hx18b
          refine zw_4 zr_131_73 rfl ?_
          refine zw_36 zr_131_75 ?_
          refine zw_29h zr_131_76 ?_
          intro x19 hx19a hx19b
          refine zw_27h zr_131_77 ?_
          intro x20 hx20a hx20b
          refine zw_13 (L' := [(2, 0), (0, a0), (1, x20), (9, 0), (1, i2), (9, 0), (0, i3), (0, i4), (0, x12), (0, x13)]) zr_131_78 (Nat.le_of_ble_eq_true rfl) rfl ?_
          refine zw_6 zr_131_79 rfl ?_
          refine zw_4 zr_131_81 rfl ?_
          refine zw_36 zr_131_83 ?_
          refine zw_29h zr_131_84 ?_
          intro x21 hx21a hx21b
          refine zw_14 (L' := [(2, 0), (0, a0), (1, x20), (9, 0), (1, x21), (9, 0), (0, i3), (0, i4), (0, x12), (0, x13)]) zr_131_85 (Nat.le_of_ble_eq_true rfl) rfl ?_
          refine zw_4 zr_131_87 rfl ?_
          refine zw_7 zr_131_89 rfl ?_
          refine zw_46r (s := 1) zr_131_90 rfl rfl rfl rfl ?_
          refine zw_46r (s := 13) zr_131_93 rfl rfl rfl rfl ?_
          refine zw_4 zr_131_96 rfl ?_
          refine zw_48k (c := 13) (len := 4) zr_131_98 rfl rfl (by omega) (by omega) rfl ex17.symm ?_
          refine zw_16h zr_131_99 ?_
          intro x22 hx22a hx22b
          refine zw_10 (L' := [(2, 0), (0, a0), (1, x20), (9, 0), (1, x21), (9, 0), (0, x22), (0, i4), (0, x12), (0, x13)]) zr_131_100 (Nat.le_of_ble_eq_true rfl) rfl ?_
          refine zw_15 (c := 1) (L' := [(2, 0), (0, a0), (1, x20), (9, 0), (1, x21), (9, 0), (0, x22), (0, (i4 + 1)), (0, x12), (0, x13)]) zr_131_102 rfl (by decide) (by omega) rfl ?_
          refine zw_42 zr_131_105 ?_
          exact zw_less (L := [(2, 0), (0, a0), (1, x20), (9, 0), (1, x21), (9, 0), (0, x22), (0, (i4 + 1)), (9, 0), (9, 0)]) ⟨Or.inr rfl, Or.inr rfl, Or.inr rfl, Or.inl rfl, Or.inr rfl, Or.inl rfl, Or.inr rfl, Or.inr rfl, Or.inl rfl, Or.inl rfl, trivial⟩ (ihlp11_6 (x20) (x21) (x22) ((i4 + 1)) m5 hIm5 hFm5   (by omega) (by omega) (by omega) (by omega) (by omega) (by omega) (by omega) (by omega)  (by omega))
  exact lp11_6 _ (0) (1) (0) (0) m0 hI0 hF0   (by omega) (by omega) (by omega) (by omega) (by omega) (by omega) (by omega) (by omega)  (Nat.lt_succ_self _)

set_option maxHeartbeats 8000000 in
theorem th_59 {E : zE} {d : Nat} {m0 : zM} {a0 : Int} (hd : 1 ≤ d) (hI0 : zInv m0) (ha0 : 0 ≤ a0 ∧ a0 ≤ 9) : zC E d 59 [(2, 1), (0, a0)] m0 (fun v m' => ∃ r : Int, v = (0, r) ∧ (-2147483648) ≤ r ∧ r ≤ 2147483647 ∧ m0 = m') := by
  generalize hQ : (fun (v : zV) (m' : zM) => ∃ r : Int, v = (0, r) ∧ (-2147483648) ≤ r ∧ r ≤ 2147483647 ∧ m0 = m') = Q
  show zW E d 59 0 [(2, 1), (0, a0), (9, 0), (9, 0)] [] m0 Q
  refine zw_push zr_59_0 ?_
  refine zw_9 (L' := [(2, 1), (0, a0), (0, 0), (9, 0)]) zr_59_1 (Nat.le_of_ble_eq_true rfl) rfl ?_
  refine zw_push zr_59_2 ?_
  refine zw_9 (L' := [(2, 1), (0, a0), (0, 0), (0, 0)]) zr_59_3 (Nat.le_of_ble_eq_true rfl) rfl ?_
  have lp4_3 : ∀ (nlp4_3 : Nat) (i1 i2 : Int), (-2147483648) ≤ i1 → i1 ≤ 2147483647 → 0 ≤ i2 → i2 ≤ 4 → (4 - i2).toNat < nlp4_3 → zW E (d) 59 4 [(2, 1), (0, a0), (0, i1), (0, i2)] [] m0 Q := by
    intro nlp4_3
    induction nlp4_3 with
    | zero =>
      intros
      exact absurd (by assumption : _ < 0) (Nat.not_lt_zero _)
    | succ nlp4_3 ihlp4_3 =>
      intro i1 i2 li1 ui1 li2 ui2 hmlp4_3
      refine zw_3 zr_59_4 rfl ?_
      refine zw_push zr_59_5 ?_
      refine zw_41_3 zr_59_6 ?_ ?_
      · intro h5
        refine zw_3 zr_59_28 rfl ?_
        refine zw_R zr_59_29 (by decide) zm_59 (v := (0, i1)) rfl ?_
        rw [← hQ]; exact ⟨_, rfl, by omega, by omega, rfl⟩
      · intro h6
        refine zw_3 zr_59_9 rfl ?_
        refine zw_7 zr_59_10 rfl ?_
        refine zw_46r (s := 3) zr_59_11 rfl rfl rfl rfl ?_
        refine zw_3 zr_59_14 rfl ?_
        refine zw_push zr_59_15 ?_
        refine zw_18 zr_59_16 (by omega) ?_
        refine zw_3 zr_59_17 rfl ?_
        refine zw_16 zr_59_18 (by omega) ?_
        refine zw_48 (c := 3) (len := 40) zr_59_19 rfl rfl (by omega) (by omega) ?_
        intro x7 ex7
        have bx7 := ib_3 hI0 (k := (((a0 * 4) + i2)).toNat) (by omega)
        rw [← ex7] at bx7
        clear ex7
        refine zw_16h zr_59_20 ?_
        intro x8 hx8a hx8b
        refine zw_9 (L' := [(2, 1), (0, a0), (0, x8), (0, i2)]) zr_59_21 (Nat.le_of_ble_eq_true rfl) rfl ?_
        refine zw_15 (c := 1) (L' := [(2, 1), (0, a0), (0, x8), (0, (i2 + 1))]) zr_59_22 rfl (by decide) (by omega) rfl ?_
        refine zw_42 zr_59_25 ?_
        exact zw_less (L := [(2, 1), (0, a0), (0, x8), (0, (i2 + 1))]) ⟨Or.inr rfl, Or.inr rfl, Or.inr rfl, Or.inr rfl, trivial⟩ (ihlp4_3 (x8) ((i2 + 1))  (by omega) (by omega) (by omega) (by omega)  (by omega))
  exact lp4_3 _ (0) (0)  (by omega) (by omega) (by omega) (by omega)  (Nat.lt_succ_self _)

abbrev W_132 : List (Nat × Nat) := [(42, 0), (42, 1)]
set_option maxHeartbeats 8000000 in
theorem th_132 {E : zE} {d : Nat} {m0 : zM} {a0 : Int} {a1 : Int} {g0 : Int} {F4 : Nat → Int} (hd : 4 ≤ d) (hI0 : zInv m0) (hg0 : m0 1 0 = g0) (hG4 : m0 4 = F4) (ha0 : (-2147483648) ≤ a0 ∧ a0 ≤ 2147483647) (ha1 : (-2147483648) ≤ a1 ∧ a1 ≤ 2147483647) : zC E d 132 [(2, 0), (0, a0), (0, a1)] m0 (fun v m' => ∃ r : Int, v = (0, r) ∧ (-3) ≤ r ∧ r ≤ 1 ∧ zInv m' ∧ zFr W_132 m0 m' ∧ ((r = -2 ∧ (a0 < 0 ∨ g0 ≤ a0 ∨ a1 < 0 ∨ 1 < a1)) ∨ (0 ≤ a0 ∧ a0 < g0 ∧ 0 ≤ a1 ∧ a1 ≤ 1 ∧ ((r = -3 ∧ F4 (a0 * 4 + 0).toNat + F4 (a0 * 4 + (0 + 1)).toNat + F4 (a0 * 4 + ((0 + 1) + 1)).toNat + F4 (a0 * 4 + (((0 + 1) + 1) + 1)).toNat = 0) ∨ (r = 1 ∧ F4 (a0 * 4 + 0).toNat + F4 (a0 * 4 + (0 + 1)).toNat + F4 (a0 * 4 + ((0 + 1) + 1)).toNat + F4 (a0 * 4 + (((0 + 1) + 1) + 1)).toNat ≠ 0))))) := by
  have hF0 : zFr W_132 m0 m0 := zFr.rfl
  have bg0 := ib_1_0 hI0
  rw [hg0] at bg0
  generalize hQ : (fun (v : zV) (m' : zM) => ∃ r : Int, v = (0, r) ∧ (-3) ≤ r ∧ r ≤ 1 ∧ zInv m' ∧ zFr W_132 m0 m' ∧ ((r = -2 ∧ (a0 < 0 ∨ g0 ≤ a0 ∨ a1 < 0 ∨ 1 < a1)) ∨ (0 ≤ a0 ∧ a0 < g0 ∧ 0 ≤ a1 ∧ a1 ≤ 1 ∧ ((r = -3 ∧ F4 (a0 * 4 + 0).toNat + F4 (a0 * 4 + (0 + 1)).toNat + F4 (a0 * 4 + ((0 + 1) + 1)).toNat + F4 (a0 * 4 + (((0 + 1) + 1) + 1)).toNat = 0) ∨ (r = 1 ∧ F4 (a0 * 4 + 0).toNat + F4 (a0 * 4 + (0 + 1)).toNat + F4 (a0 * 4 + ((0 + 1) + 1)).toNat + F4 (a0 * 4 + (((0 + 1) + 1) + 1)).toNat ≠ 0))))) = Q
  show zW E d 132 0 [(2, 0), (0, a0), (0, a1)] [] m0 Q
  refine zw_7 zr_132_0 rfl ?_
  refine zw_46r (s := 1) zr_132_1 rfl rfl rfl rfl ?_
  refine zw_3 zr_132_4 rfl ?_
  refine zw_C zr_132_5 (Or.inl rfl) zm_49 rfl rfl ⟨Nat.le_of_ble_eq_true rfl, Nat.le_of_ble_eq_true rfl, Nat.le_of_ble_eq_true rfl, rfl, by decide⟩ (by omega) (P := (fun v m' => zW E (d) 132 8 [(2, 0), (0, a0), (0, a1)] (if v.1 = 9 then [] else v :: []) m' Q)) ?_ (fun _ _ h => h)
  generalize hQ1 : (fun v m' => zW E (d) 132 8 [(2, 0), (0, a0), (0, a1)] (if v.1 = 9 then [] else v :: []) m' Q) = Q1
  show zW E (d - 1) 49 0 [(2, 1), (0, a0)] [] m0 Q1
  refine zw_3 zr_49_0 rfl ?_
  refine zw_40_0 zr_49_1 ?_ ?_
  · intro h1
    refine zw_push zr_49_16 ?_
    refine zw_R zr_49_17 (by decide) zm_49 (v := (0, 0)) (zRetB (by omega)) ?_
    rw [← hQ1]
    show zW E (d) 132 8 [(2, 0), (0, a0), (0, a1)] [(0, 0)] m0 Q
    refine zw_40_1 zr_132_8 ?_ ?_
    · intro h2
      refine zw_push zr_132_20 ?_
      refine zw_R zr_132_22 (by decide) zm_132 (v := (0, (-2))) rfl ?_
      rw [← hQ]; exact ⟨_, rfl, by omega, by omega, hI0, hF0, by omega⟩
    · intro h4; omega
  · intro h5
    refine zw_3 zr_49_4 rfl ?_
    refine zw_7 zr_49_5 rfl ?_
    refine zw_46i zr_49_6 hg0 rfl rfl rfl ?_
    refine zw_41_3 zr_49_9 ?_ ?_
    · intro h6
      refine zw_push zr_49_16 ?_
      refine zw_R zr_49_17 (by decide) zm_49 (v := (0, 0)) (zRetB (by omega)) ?_
      rw [← hQ1]
      show zW E (d) 132 8 [(2, 0), (0, a0), (0, a1)] [(0, 0)] m0 Q
      refine zw_40_1 zr_132_8 ?_ ?_
      · intro h7
        refine zw_push zr_132_20 ?_
        refine zw_R zr_132_22 (by decide) zm_132 (v := (0, (-2))) rfl ?_
        rw [← hQ]; exact ⟨_, rfl, by omega, by omega, hI0, hF0, by omega⟩
      · intro h9; omega
    · intro h10
      refine zw_push zr_49_12 ?_
      refine zw_42 zr_49_13 ?_
      refine zw_R zr_49_17 (by decide) zm_49 (v := (0, 1)) (zRetB (by omega)) ?_
      rw [← hQ1]
      show zW E (d) 132 8 [(2, 0), (0, a0), (0, a1)] [(0, 1)] m0 Q
      refine zw_40_1 zr_132_8 ?_ ?_
      · intro h11; omega
      · intro h12
        refine zw_3 zr_132_11 rfl ?_
        refine zw_push zr_132_12 ?_
        refine zw_push zr_132_13 ?_
        refine zw_C zr_132_14 (Or.inr rfl) zm_100 rfl rfl ⟨Nat.le_of_ble_eq_true rfl, Nat.le_of_ble_eq_true rfl, Nat.le_of_ble_eq_true rfl, rfl, by decide⟩ (by omega) (P := (fun v m' => zW E (d) 132 17 [(2, 0), (0, a0), (0, a1)] (if v.1 = 9 then [] else v :: []) m' Q)) ?_ (fun _ _ h => h)
        generalize hQ1 : (fun v m' => zW E (d) 132 17 [(2, 0), (0, a0), (0, a1)] (if v.1 = 9 then [] else v :: []) m' Q) = Q1
        show zW E (d - 1) 100 0 [(0, a1), (0, 0), (0, 1)] [] m0 Q1
        refine zw_3 zr_100_0 rfl ?_
        refine zw_3 zr_100_1 rfl ?_
        refine zw_41_0 zr_100_2 ?_ ?_
        · intro h13
          refine zw_push zr_100_14 ?_
          refine zw_R zr_100_15 (by decide) zm_100 (v := (0, 0)) (zRetB (by omega)) ?_
          rw [← hQ1]
          show zW E (d) 132 17 [(2, 0), (0, a0), (0, a1)] [(0, 0)] m0 Q
          refine zw_40_4 zr_132_17 ?_ ?_
          · intro h14; omega
          · intro h15
            refine zw_push zr_132_20 ?_
            refine zw_R zr_132_22 (by decide) zm_132 (v := (0, (-2))) rfl ?_
            rw [← hQ]; exact ⟨_, rfl, by omega, by omega, hI0, hF0, by omega⟩
        · intro h17
          refine zw_3 zr_100_5 rfl ?_
          refine zw_3 zr_100_6 rfl ?_
          refine zw_41_2 zr_100_7 ?_ ?_
          · intro h18
            refine zw_push zr_100_14 ?_
            refine zw_R zr_100_15 (by decide) zm_100 (v := (0, 0)) (zRetB (by omega)) ?_
            rw [← hQ1]
            show zW E (d) 132 17 [(2, 0), (0, a0), (0, a1)] [(0, 0)] m0 Q
            refine zw_40_4 zr_132_17 ?_ ?_
            · intro h19; omega
            · intro h20
              refine zw_push zr_132_20 ?_
              refine zw_R zr_132_22 (by decide) zm_132 (v := (0, (-2))) rfl ?_
              rw [← hQ]; exact ⟨_, rfl, by omega, by omega, hI0, hF0, by omega⟩
          · intro h22
            refine zw_push zr_100_10 ?_
            refine zw_42 zr_100_11 ?_
            refine zw_R zr_100_15 (by decide) zm_100 (v := (0, 1)) (zRetB (by omega)) ?_
            rw [← hQ1]
            show zW E (d) 132 17 [(2, 0), (0, a0), (0, a1)] [(0, 1)] m0 Q
            refine zw_40_4 zr_132_17 ?_ ?_
            · intro h23
              refine zw_7 zr_132_23 rfl ?_
              refine zw_46r (s := 1) zr_132_24 rfl rfl rfl rfl ?_
              refine zw_3 zr_132_27 rfl ?_
              refine zw_C zr_132_28 (Or.inl rfl) zm_60 rfl rfl ⟨Nat.le_of_ble_eq_true rfl, Nat.le_of_ble_eq_true rfl, Nat.le_of_ble_eq_true rfl, rfl, by decide⟩ (by omega) (th_60 (d := d - 1) (by omega) hI0 (a0 := a0)   (F4 := F4)  hG4 (by omega) ) ?_
              rintro _ _ ⟨r24, rfl, hr24a, hr24b, rfl, po0_r24⟩
              show zW E (d) 132 31 [(2, 0), (0, a0), (0, a1)] [(0, r24)] m0 Q
              refine zw_40_4 zr_132_31 ?_ ?_
              · intro h25
                refine zw_3 zr_132_37 rfl ?_
                refine zw_40_4 zr_132_38 ?_ ?_
                · intro h26
                  refine zw_7 zr_132_69 rfl ?_
                  refine zw_3 zr_132_70 rfl ?_
                  refine zw_C zr_132_71 (Or.inl rfl) zm_131 rfl rfl ⟨Nat.le_of_ble_eq_true rfl, Nat.le_of_ble_eq_true rfl, Nat.le_of_ble_eq_true rfl, rfl, by decide⟩ (by omega) (th_131 (d := d - 1) (by omega) hI0 (a0 := a0)      (by omega) ) ?_
                  rintro _ m27 ⟨rfl, hIm27, gm27⟩
                  have hFm27 : zFr W_132 m0 m27 := hF0.trans gm27 rfl
                  have km27_1_0 : m27 1 0 = g0 := (gm27 1 0 rfl).trans hg0
                  have fm27_4 : m27 4 = F4 := (funext fun k => gm27 4 k rfl).trans hG4
                  show zW E (d) 132 74 [(2, 0), (0, a0), (0, a1)] [] m27 Q
                  refine zw_push zr_132_74 ?_
                  refine zw_R zr_132_75 (by decide) zm_132 (v := (0, 1)) rfl ?_
                  rw [← hQ]; exact ⟨_, rfl, by omega, by omega, hIm27, hFm27, by omega⟩
                · intro h29
                  refine zw_7 zr_132_41 rfl ?_
                  refine zw_46r (s := 42) zr_132_42 rfl rfl rfl rfl ?_
                  refine zw_7 zr_132_45 rfl ?_
                  refine zw_46r (s := 1) zr_132_46 rfl rfl rfl rfl ?_
                  refine zw_3 zr_132_49 rfl ?_
                  refine zw_C zr_132_50 (Or.inl rfl) zm_59 rfl rfl ⟨Nat.le_of_ble_eq_true rfl, Nat.le_of_ble_eq_true rfl, Nat.le_of_ble_eq_true rfl, rfl, by decide⟩ (by omega) (th_59 (d := d - 1) (by omega) hI0 (a0 := a0)      (by omega) ) ?_
                  rintro _ _ ⟨r30, rfl, hr30a, hr30b, rfl⟩
                  show zW E (d) 132 53 [(2, 0), (0, a0), (0, a1)] [(0, r30), (2, 42)] m0 Q
                  refine zw_36 zr_132_53 ?_
                  refine zw_7 zr_132_54 rfl ?_
                  refine zw_46r (s := 1) zr_132_55 rfl rfl rfl rfl ?_
                  refine zw_3 zr_132_58 rfl ?_
                  refine zw_C zr_132_59 (Or.inl rfl) zm_60 rfl rfl ⟨Nat.le_of_ble_eq_true rfl, Nat.le_of_ble_eq_true rfl, Nat.le_of_ble_eq_true rfl, rfl, by decide⟩ (by omega) (th_60 (d := d - 1) (by omega) hI0 (a0 := a0)   (F4 := F4)  hG4 (by omega) ) ?_
                  rintro _ _ ⟨r31, rfl, hr31a, hr31b, rfl, po0_r31⟩
                  show zW E (d) 132 62 [(2, 0), (0, a0), (0, a1)] [(0, r31), (1, r30), (2, 42)] m0 Q
                  refine zw_36 zr_132_62 ?_
                  refine zw_C zr_132_63 (Or.inl rfl) zm_38 rfl rfl ⟨Nat.le_of_ble_eq_true rfl, Nat.le_of_ble_eq_true rfl, Nat.le_of_ble_eq_true rfl, rfl, by decide⟩ (by omega) (th_38 (d := d - 1) (by omega) hI0 (a0 := r30) (a1 := r31)      (by omega) (by omega) ) ?_
                  rintro _ m32 ⟨rfl, hIm32, gm32⟩
                  have hFm32 : zFr W_132 m0 m32 := hF0.trans gm32 rfl
                  have km32_1_0 : m32 1 0 = g0 := (gm32 1 0 rfl).trans hg0
                  have fm32_4 : m32 4 = F4 := (funext fun k => gm32 4 k rfl).trans hG4
                  show zW E (d) 132 66 [(2, 0), (0, a0), (0, a1)] [] m32 Q
                  refine zw_42 zr_132_66 ?_
                  refine zw_push zr_132_74 ?_
                  refine zw_R zr_132_75 (by decide) zm_132 (v := (0, 1)) rfl ?_
                  rw [← hQ]; exact ⟨_, rfl, by omega, by omega, hIm32, hFm32, by omega⟩
              · intro h34
                refine zw_push zr_132_34 ?_
                refine zw_R zr_132_36 (by decide) zm_132 (v := (0, (-3))) rfl ?_
                rw [← hQ]; exact ⟨_, rfl, by omega, by omega, hI0, hF0, by omega⟩
            · intro h36; omega
