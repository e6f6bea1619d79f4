abbrev W_150 : List (Nat × Nat) := [(70, 1000)]
set_option maxHeartbeats 8000000 in
theorem th_150 {E : zE} {d : Nat} {m0 : zM} {a0 : Int} {a1 : Int} (hd : 3 ≤ d) (hI0 : zInv m0) (ha0 : (-2147483648) ≤ a0 ∧ a0 ≤ 2147483647) (ha1 : (-2147483648) ≤ a1 ∧ a1 ≤ 2147483647) : zC E d 150 [(2, 69), (0, a0), (0, a1)] m0 (fun v m' => ∃ r : Int, v = (0, r) ∧ (-4) ≤ r ∧ r ≤ 50 ∧ zInv m' ∧ zFr W_150 m0 m') := by
  have hF0 : zFr W_150 m0 m0 := zFr.rfl
  generalize hQ : (fun (v : zV) (m' : zM) => ∃ r : Int, v = (0, r) ∧ (-4) ≤ r ∧ r ≤ 50 ∧ zInv m' ∧ zFr W_150 m0 m') = Q
  show zW E d 150 0 [(2, 69), (0, a0), (0, a1), (9, 0)] [] m0 Q
  refine zw_3 zr_150_0 rfl ?_
  refine zw_C zr_150_1 (Or.inr rfl) zm_148 rfl rfl ⟨Nat.le_of_ble_eq_true rfl, Nat.le_of_ble_eq_true rfl, Nat.le_of_ble_eq_true rfl, rfl, by decide⟩ (by omega) (P := (fun v m' => zW E (d) 150 4 [(2, 69), (0, a0), (0, a1), (9, 0)] (if v.1 = 9 then [] else v :: []) m' Q)) ?_ (fun _ _ h => h)
  generalize hQ1 : (fun v m' => zW E (d) 150 4 [(2, 69), (0, a0), (0, a1), (9, 0)] (if v.1 = 9 then [] else v :: []) m' Q) = Q1
  show zW E (d - 1) 148 0 [(0, a0)] [] m0 Q1
  refine zw_3 zr_148_0 rfl ?_
  refine zw_36 zr_148_1 ?_
  refine zw_push zr_148_2 ?_
  refine zw_push zr_148_3 ?_
  refine zw_C zr_148_6 (Or.inr rfl) zm_140 rfl rfl ⟨Nat.le_of_ble_eq_true rfl, Nat.le_of_ble_eq_true rfl, Nat.le_of_ble_eq_true rfl, rfl, by decide⟩ (by omega) (P := (fun v m' => zW E (d - 1) 148 9 [(0, a0)] (if v.1 = 9 then [] else v :: []) m' Q1)) ?_ (fun _ _ h => h)
  generalize hQ2 : (fun v m' => zW E (d - 1) 148 9 [(0, a0)] (if v.1 = 9 then [] else v :: []) m' Q1) = Q2
  show zW E (d - 1 - 1) 140 0 [(1, a0), (9, 0), (1, 0), (9, 0), (1, 3), (9, 0)] [] m0 Q2
  refine zw_5 zr_140_0 rfl ?_
  refine zw_5 zr_140_1 rfl ?_
  refine zw_39_0 zr_140_2 zr_140_3 ?_ ?_
  · intro h1
    refine zw_push zr_140_17 ?_
    refine zw_R zr_140_18 (by decide) zm_140 (v := (0, 0)) (zRetB (by omega)) ?_
    rw [← hQ2]
    show zW E (d - 1) 148 9 [(0, a0)] [(0, 0)] m0 Q1
    refine zw_R zr_148_9 (by decide) zm_148 (v := (0, 0)) (zRetB (by omega)) ?_
    rw [← hQ1]
    show zW E (d) 150 4 [(2, 69), (0, a0), (0, a1), (9, 0)] [(0, 0)] m0 Q
    refine zw_40_1 zr_150_4 ?_ ?_
    · intro h2
      refine zw_push zr_150_19 ?_
      refine zw_R zr_150_21 (by decide) zm_150 (v := (0, (-2))) rfl ?_
      rw [← hQ]; exact ⟨_, rfl, by omega, by omega, hI0, hF0⟩
    · intro h3; omega
  · intro h4
    refine zw_5 zr_140_6 rfl ?_
    refine zw_6 zr_140_7 rfl ?_
    refine zw_39_2 zr_140_9 zr_140_10 ?_ ?_
    · intro h5
      refine zw_push zr_140_17 ?_
      refine zw_R zr_140_18 (by decide) zm_140 (v := (0, 0)) (zRetB (by omega)) ?_
      rw [← hQ2]
      show zW E (d - 1) 148 9 [(0, a0)] [(0, 0)] m0 Q1
      refine zw_R zr_148_9 (by decide) zm_148 (v := (0, 0)) (zRetB (by omega)) ?_
      rw [← hQ1]
      show zW E (d) 150 4 [(2, 69), (0, a0), (0, a1), (9, 0)] [(0, 0)] m0 Q
      refine zw_40_1 zr_150_4 ?_ ?_
      · intro h6
        refine zw_push zr_150_19 ?_
        refine zw_R zr_150_21 (by decide) zm_150 (v := (0, (-2))) rfl ?_
        rw [← hQ]; exact ⟨_, rfl, by omega, by omega, hI0, hF0⟩
      · intro h7; omega
    · intro h8
      refine zw_push zr_140_13 ?_
      refine zw_42 zr_140_14 ?_
      refine zw_R zr_140_18 (by decide) zm_140 (v := (0, 1)) (zRetB (by omega)) ?_
      rw [← hQ2]
      show zW E (d - 1) 148 9 [(0, a0)] [(0, 1)] m0 Q1
      refine zw_R zr_148_9 (by decide) zm_148 (v := (0, 1)) (zRetB (by omega)) ?_
      rw [← hQ1]
      show zW E (d) 150 4 [(2, 69), (0, a0), (0, a1), (9, 0)] [(0, 1)] m0 Q
      refine zw_40_1 zr_150_4 ?_ ?_
      · intro h9; omega
      · intro h10
        refine zw_3 zr_150_7 rfl ?_
        refine zw_36 zr_150_8 ?_
        refine zw_push zr_150_9 ?_
        refine zw_push zr_150_10 ?_
        refine zw_C zr_150_13 (Or.inr rfl) zm_140 rfl rfl ⟨Nat.le_of_ble_eq_true rfl, Nat.le_of_ble_eq_true rfl, Nat.le_of_ble_eq_true rfl, rfl, by decide⟩ (by omega) (P := (fun v m' => zW E (d) 150 16 [(2, 69), (0, a0), (0, a1), (9, 0)] (if v.1 = 9 then [] else v :: []) m' Q)) ?_ (fun _ _ h => h)
        generalize hQ1 : (fun v m' => zW E (d) 150 16 [(2, 69), (0, a0), (0, a1), (9, 0)] (if v.1 = 9 then [] else v :: []) m' Q) = Q1
        show zW E (d - 1) 140 0 [(1, a1), (9, 0), (1, 0), (9, 0), (1, 127), (9, 0)] [] m0 Q1
        refine zw_5 zr_140_0 rfl ?_
        refine zw_5 zr_140_1 rfl ?_
        refine zw_39_0 zr_140_2 zr_140_3 ?_ ?_
        · intro h11
          refine zw_push zr_140_17 ?_
          refine zw_R zr_140_18 (by decide) zm_140 (v := (0, 0)) (zRetB (by omega)) ?_
          rw [← hQ1]
          show zW E (d) 150 16 [(2, 69), (0, a0), (0, a1), (9, 0)] [(0, 0)] m0 Q
          refine zw_40_4 zr_150_16 ?_ ?_
          · intro h12; omega
          · intro h13
            refine zw_push zr_150_19 ?_
            refine zw_R zr_150_21 (by decide) zm_150 (v := (0, (-2))) rfl ?_
            rw [← hQ]; exact ⟨_, rfl, by omega, by omega, hI0, hF0⟩
        · intro h14
          refine zw_5 zr_140_6 rfl ?_
          refine zw_6 zr_140_7 rfl ?_
          refine zw_39_2 zr_140_9 zr_140_10 ?_ ?_
          · intro h15
            refine zw_push zr_140_17 ?_
            refine zw_R zr_140_18 (by decide) zm_140 (v := (0, 0)) (zRetB (by omega)) ?_
            rw [← hQ1]
            show zW E (d) 150 16 [(2, 69), (0, a0), (0, a1), (9, 0)] [(0, 0)] m0 Q
            refine zw_40_4 zr_150_16 ?_ ?_
            · intro h16; omega
            · intro h17
              refine zw_push zr_150_19 ?_
              refine zw_R zr_150_21 (by decide) zm_150 (v := (0, (-2))) rfl ?_
              rw [← hQ]; exact ⟨_, rfl, by omega, by omega, hI0, hF0⟩
          · intro h18
            refine zw_push zr_140_13 ?_
            refine zw_42 zr_140_14 ?_
            refine zw_R zr_140_18 (by decide) zm_140 (v := (0, 1)) (zRetB (by omega)) ?_
            rw [← hQ1]
            show zW E (d) 150 16 [(2, 69), (0, a0), (0, a1), (9, 0)] [(0, 1)] m0 Q
            refine zw_40_4 zr_150_16 ?_ ?_
            · intro h19
              refine zw_7 zr_150_22 rfl ?_
              refine zw_46r (s := 70) zr_150_23 rfl rfl rfl rfl ?_
              refine zw_push zr_150_26 ?_
              refine zw_push zr_150_29 ?_
              refine zw_3 zr_150_31 rfl ?_
              refine zw_18 zr_150_32 (by omega) ?_
              refine zw_16 zr_150_33 (by omega) ?_
              refine zw_push zr_150_34 ?_
              refine zw_16 zr_150_35 (by omega) ?_
              refine zw_48 (c := 70) (len := 826) zr_150_36 rfl rfl (by omega) (by omega) ?_
              intro x20 ex20
              have bx20 := ib_70_s1 hI0 (k := (((450 + (52 * a0)) + 1)).toNat) (by omega)
              rw [← ex20] at bx20
              clear ex20
              refine zw_9 (L' := [(2, 69), (0, a0), (0, a1), (0, x20)]) zr_150_37 (Nat.le_of_ble_eq_true rfl) rfl ?_
              refine zw_3 zr_150_38 rfl ?_
              refine zw_push zr_150_39 ?_
              refine zw_41_4 zr_150_41 ?_ ?_
              · intro h21
                refine zw_7 zr_150_47 rfl ?_
                refine zw_46r (s := 70) zr_150_48 rfl rfl rfl rfl ?_
                refine zw_push zr_150_51 ?_
                refine zw_push zr_150_54 ?_
                refine zw_3 zr_150_56 rfl ?_
                refine zw_18 zr_150_57 (by omega) ?_
                refine zw_16 zr_150_58 (by omega) ?_
                refine zw_push zr_150_59 ?_
                refine zw_16 zr_150_60 (by omega) ?_
                refine zw_3 zr_150_61 rfl ?_
                refine zw_16 zr_150_62 (by omega) ?_
                refine zw_3 zr_150_63 rfl ?_
                refine zw_49 (c := 70) (len := 826) zr_150_64 rfl rfl (by omega) (by omega) ?_
                intro m22 em22
                have hIm22 : zInv m22 := by rw [em22]; exact iu_70_s2 hI0 (by omega) (by omega)
                have hFm22 : zFr W_150 m0 m22 := by rw [em22]; exact hF0.any rfl
                clear em22
                refine zw_7 zr_150_65 rfl ?_
                refine zw_46r (s := 70) zr_150_66 rfl rfl rfl rfl ?_
                refine zw_push zr_150_69 ?_
                refine zw_push zr_150_72 ?_
                refine zw_3 zr_150_74 rfl ?_
                refine zw_18 zr_150_75 (by omega) ?_
                refine zw_16 zr_150_76 (by omega) ?_
                refine zw_push zr_150_77 ?_
                refine zw_16 zr_150_78 (by omega) ?_
                refine zw_3 zr_150_79 rfl ?_
                refine zw_push zr_150_80 ?_
                refine zw_16 zr_150_81 (by omega) ?_
                refine zw_49 (c := 70) (len := 826) zr_150_82 rfl rfl (by omega) (by omega) ?_
                intro m23 em23
                have hIm23 : zInv m23 := by rw [em23]; exact iu_70_s1 hIm22 (by omega) (by omega)
                have hFm23 : zFr W_150 m0 m23 := by rw [em23]; exact hFm22.any rfl
                clear em23
                refine zw_3 zr_150_83 rfl ?_
                refine zw_push zr_150_84 ?_
                refine zw_16 zr_150_85 (by omega) ?_
                refine zw_R zr_150_86 (by decide) zm_150 (v := (0, (x20 + 1))) rfl ?_
                rw [← hQ]; exact ⟨_, rfl, by omega, by omega, hIm23, hFm23⟩
              · intro h24
                refine zw_push zr_150_44 ?_
                refine zw_R zr_150_46 (by decide) zm_150 (v := (0, (-4))) rfl ?_
                rw [← hQ]; exact ⟨_, rfl, by omega, by omega, hI0, hF0⟩
            · intro h25; omega

abbrev W_107 : List (Nat × Nat) := [(10, 1000)]
set_option maxHeartbeats 8000000 in
theorem th_107 {E : zE} {d : Nat} {m0 : zM} {a0 : Int} (hd : 3 ≤ d) (hI0 : zInv m0) (ha0 : (-2147483648) ≤ a0 ∧ a0 ≤ 2147483647) : zC E d 107 [(2, 0), (0, a0)] m0 (fun v m' => ∃ r : Int, v = (0, r) ∧ (-2) ≤ r ∧ r ≤ 50 ∧ zInv m' ∧ zFr W_107 m0 m') := by
  have hF0 : zFr W_107 m0 m0 := zFr.rfl
  generalize hQ : (fun (v : zV) (m' : zM) => ∃ r : Int, v = (0, r) ∧ (-2) ≤ r ∧ r ≤ 50 ∧ zInv m' ∧ zFr W_107 m0 m') = Q
  show zW E d 107 0 [(2, 0), (0, a0), (9, 0)] [] m0 Q
  refine zw_3 zr_107_0 rfl ?_
  refine zw_C zr_107_1 (Or.inr rfl) zm_104 rfl rfl ⟨Nat.le_of_ble_eq_true rfl, Nat.le_of_ble_eq_true rfl, Nat.le_of_ble_eq_true rfl, rfl, by decide⟩ (by omega) (P := (fun v m' => zW E (d) 107 4 [(2, 0), (0, a0), (9, 0)] (if v.1 = 9 then [] else v :: []) m' Q)) ?_ (fun _ _ h => h)
  generalize hQ1 : (fun v m' => zW E (d) 107 4 [(2, 0), (0, a0), (9, 0)] (if v.1 = 9 then [] else v :: []) m' Q) = Q1
  show zW E (d - 1) 104 0 [(0, a0)] [] m0 Q1
  refine zw_3 zr_104_0 rfl ?_
  refine zw_push zr_104_1 ?_
  refine zw_push zr_104_2 ?_
  refine zw_C zr_104_3 (Or.inr rfl) zm_100 rfl rfl ⟨Nat.le_of_ble_eq_true rfl, Nat.le_of_ble_eq_true rfl, Nat.le_of_ble_eq_true rfl, rfl, by decide⟩ (by omega) (P := (fun v m' => zW E (d - 1) 104 6 [(0, a0)] (if v.1 = 9 then [] else v :: []) m' Q1)) ?_ (fun _ _ h => h)
  generalize hQ2 : (fun v m' => zW E (d - 1) 104 6 [(0, a0)] (if v.1 = 9 then [] else v :: []) m' Q1) = Q2
  show zW E (d - 1 - 1) 100 0 [(0, a0), (0, 0), (0, 3)] [] m0 Q2
  refine zw_3 zr_100_0 rfl ?_
  refine zw_3 zr_100_1 rfl ?_
  refine zw_41_0 zr_100_2 ?_ ?_
  · intro h1
    refine zw_push zr_100_14 ?_
    refine zw_R zr_100_15 (by decide) zm_100 (v := (0, 0)) (zRetB (by omega)) ?_
    rw [← hQ2]
    show zW E (d - 1) 104 6 [(0, a0)] [(0, 0)] m0 Q1
    refine zw_R zr_104_6 (by decide) zm_104 (v := (0, 0)) (zRetB (by omega)) ?_
    rw [← hQ1]
    show zW E (d) 107 4 [(2, 0), (0, a0), (9, 0)] [(0, 0)] m0 Q
    refine zw_40_4 zr_107_4 ?_ ?_
    · intro h2; omega
    · intro h3
      refine zw_push zr_107_7 ?_
      refine zw_R zr_107_9 (by decide) zm_107 (v := (0, (-2))) rfl ?_
      rw [← hQ]; exact ⟨_, rfl, by omega, by omega, hI0, hF0⟩
  · intro h4
    refine zw_3 zr_100_5 rfl ?_
    refine zw_3 zr_100_6 rfl ?_
    refine zw_41_2 zr_100_7 ?_ ?_
    · intro h5
      refine zw_push zr_100_14 ?_
      refine zw_R zr_100_15 (by decide) zm_100 (v := (0, 0)) (zRetB (by omega)) ?_
      rw [← hQ2]
      show zW E (d - 1) 104 6 [(0, a0)] [(0, 0)] m0 Q1
      refine zw_R zr_104_6 (by decide) zm_104 (v := (0, 0)) (zRetB (by omega)) ?_
      rw [← hQ1]
      show zW E (d) 107 4 [(2, 0), (0, a0), (9, 0)] [(0, 0)] m0 Q
      refine zw_40_4 zr_107_4 ?_ ?_
      · intro h6; omega
      · intro h7
        refine zw_push zr_107_7 ?_
        refine zw_R zr_107_9 (by decide) zm_107 (v := (0, (-2))) rfl ?_
        rw [← hQ]; exact ⟨_, rfl, by omega, by omega, hI0, hF0⟩
    · intro h8
      refine zw_push zr_100_10 ?_
      refine zw_42 zr_100_11 ?_
      refine zw_R zr_100_15 (by decide) zm_100 (v := (0, 1)) (zRetB (by omega)) ?_
      rw [← hQ2]
      show zW E (d - 1) 104 6 [(0, a0)] [(0, 1)] m0 Q1
      refine zw_R zr_104_6 (by decide) zm_104 (v := (0, 1)) (zRetB (by omega)) ?_
      rw [← hQ1]
      show zW E (d) 107 4 [(2, 0), (0, a0), (9, 0)] [(0, 1)] m0 Q
      refine zw_40_4 zr_107_4 ?_ ?_
      · intro h9
        refine zw_7 zr_107_10 rfl ?_
        refine zw_46r (s := 1) zr_107_11 rfl rfl rfl rfl ?_
        refine zw_46r (s := 10) zr_107_14 rfl rfl rfl rfl ?_
        refine zw_3 zr_107_17 rfl ?_
        refine zw_48 (c := 10) (len := 4) zr_107_18 rfl rfl (by omega) (by omega) ?_
        intro x10 ex10
        have bx10 := ib_10 hI0 (k := (a0).toNat) (by omega)
        rw [← ex10] at bx10
        clear ex10
        refine zw_9 (L' := [(2, 0), (0, a0), (0, x10)]) zr_107_19 (Nat.le_of_ble_eq_true rfl) rfl ?_
        refine zw_7 zr_107_20 rfl ?_
        refine zw_46r (s := 1) zr_107_21 rfl rfl rfl rfl ?_
        refine zw_46r (s := 10) zr_107_24 rfl rfl rfl rfl ?_
        refine zw_3 zr_107_27 rfl ?_
        refine zw_push zr_107_28 ?_
        refine zw_49 (c := 10) (len := 4) zr_107_29 rfl rfl (by omega) (by omega) ?_
        intro m11 em11
        have hIm11 : zInv m11 := by rw [em11]; exact iu_10 hI0 (by omega)
        have hFm11 : zFr W_107 m0 m11 := by rw [em11]; exact hF0.any rfl
        clear em11
        refine zw_3 zr_107_30 rfl ?_
        refine zw_R zr_107_31 (by decide) zm_107 (v := (0, x10)) rfl ?_
        rw [← hQ]; exact ⟨_, rfl, by omega, by omega, hIm11, hFm11⟩
      · intro h12; omega

abbrev W_151 : List (Nat × Nat) := [(70, 1000)]
set_option maxHeartbeats 8000000 in
theorem th_151 {E : zE} {d : Nat} {m0 : zM} {a0 : Int} (hd : 3 ≤ d) (hI0 : zInv m0) (ha0 : (-2147483648) ≤ a0 ∧ a0 ≤ 2147483647) : zC E d 151 [(2, 69), (0, a0)] m0 (fun v m' => ∃ r : Int, v = (0, r) ∧ (-2) ≤ r ∧ r ≤ 50 ∧ zInv m' ∧ zFr W_151 m0 m') := by
  have hF0 : zFr W_151 m0 m0 := zFr.rfl
  generalize hQ : (fun (v : zV) (m' : zM) => ∃ r : Int, v = (0, r) ∧ (-2) ≤ r ∧ r ≤ 50 ∧ zInv m' ∧ zFr W_151 m0 m') = Q
  show zW E d 151 0 [(2, 69), (0, a0), (9, 0)] [] m0 Q
  refine zw_3 zr_151_0 rfl ?_
  refine zw_C zr_151_1 (Or.inr rfl) zm_148 rfl rfl ⟨Nat.le_of_ble_eq_true rfl, Nat.le_of_ble_eq_true rfl, Nat.le_of_ble_eq_true rfl, rfl, by decide⟩ (by omega) (P := (fun v m' => zW E (d) 151 4 [(2, 69), (0, a0), (9, 0)] (if v.1 = 9 then [] else v :: []) m' Q)) ?_ (fun _ _ h => h)
  generalize hQ1 : (fun v m' => zW E (d) 151 4 [(2, 69), (0, a0), (9, 0)] (if v.1 = 9 then [] else v :: []) m' Q) = Q1
  show zW E (d - 1) 148 0 [(0, a0)] [] m0 Q1
  refine zw_3 zr_148_0 rfl ?_
  refine zw_36 zr_148_1 ?_
  refine zw_push zr_148_2 ?_
  refine zw_push zr_148_3 ?_
  refine zw_C zr_148_6 (Or.inr rfl) zm_140 rfl rfl ⟨Nat.le_of_ble_eq_true rfl, Nat.le_of_ble_eq_true rfl, Nat.le_of_ble_eq_true rfl, rfl, by decide⟩ (by omega) (P := (fun v m' => zW E (d - 1) 148 9 [(0, a0)] (if v.1 = 9 then [] else v :: []) m' Q1)) ?_ (fun _ _ h => h)
  generalize hQ2 : (fun v m' => zW E (d - 1) 148 9 [(0, a0)] (if v.1 = 9 then [] else v :: []) m' Q1) = Q2
  show zW E (d - 1 - 1) 140 0 [(1, a0), (9, 0), (1, 0), (9, 0), (1, 3), (9, 0)] [] m0 Q2
  refine zw_5 zr_140_0 rfl ?_
  refine zw_5 zr_140_1 rfl ?_
  refine zw_39_0 zr_140_2 zr_140_3 ?_ ?_
  · intro h1
    refine zw_push zr_140_17 ?_
    refine zw_R zr_140_18 (by decide) zm_140 (v := (0, 0)) (zRetB (by omega)) ?_
    rw [← hQ2]
    show zW E (d - 1) 148 9 [(0, a0)] [(0, 0)] m0 Q1
    refine zw_R zr_148_9 (by decide) zm_148 (v := (0, 0)) (zRetB (by omega)) ?_
    rw [← hQ1]
    show zW E (d) 151 4 [(2, 69), (0, a0), (9, 0)] [(0, 0)] m0 Q
    refine zw_40_4 zr_151_4 ?_ ?_
    · intro h2; omega
    · intro h3
      refine zw_push zr_151_7 ?_
      refine zw_R zr_151_9 (by decide) zm_151 (v := (0, (-2))) rfl ?_
      rw [← hQ]; exact ⟨_, rfl, by omega, by omega, hI0, hF0⟩
  · intro h4
    refine zw_5 zr_140_6 rfl ?_
    refine zw_6 zr_140_7 rfl ?_
    refine zw_39_2 zr_140_9 zr_140_10 ?_ ?_
    · intro h5
      refine zw_push zr_140_17 ?_
      refine zw_R zr_140_18 (by decide) zm_140 (v := (0, 0)) (zRetB (by omega)) ?_
      rw [← hQ2]
      show zW E (d - 1) 148 9 [(0, a0)] [(0, 0)] m0 Q1
      refine zw_R zr_148_9 (by decide) zm_148 (v := (0, 0)) (zRetB (by omega)) ?_
      rw [← hQ1]
      show zW E (d) 151 4 [(2, 69), (0, a0), (9, 0)] [(0, 0)] m0 Q
      refine zw_40_4 zr_151_4 ?_ ?_
      · intro h6; omega
      · intro h7
        refine zw_push zr_151_7 ?_
        refine zw_R zr_151_9 (by decide) zm_151 (v := (0, (-2))) rfl ?_
        rw [← hQ]; exact ⟨_, rfl, by omega, by omega, hI0, hF0⟩
    · intro h8
      refine zw_push zr_140_13 ?_
      refine zw_42 zr_140_14 ?_
      refine zw_R zr_140_18 (by decide) zm_140 (v := (0, 1)) (zRetB (by omega)) ?_
      rw [← hQ2]
      show zW E (d - 1) 148 9 [(0, a0)] [(0, 1)] m0 Q1
      refine zw_R zr_148_9 (by decide) zm_148 (v := (0, 1)) (zRetB (by omega)) ?_
      rw [← hQ1]
      show zW E (d) 151 4 [(2, 69), (0, a0), (9, 0)] [(0, 1)] m0 Q
      refine zw_40_4 zr_151_4 ?_ ?_
      · intro h9
        refine zw_7 zr_151_10 rfl ?_
        refine zw_46r (s := 70) zr_151_11 rfl rfl rfl rfl ?_
        refine zw_push zr_151_14 ?_
        refine zw_push zr_151_17 ?_
        refine zw_3 zr_151_19 rfl ?_
        refine zw_18 zr_151_20 (by omega) ?_
        refine zw_16 zr_151_21 (by omega) ?_
        refine zw_push zr_151_22 ?_
        refine zw_16 zr_151_23 (by omega) ?_
        refine zw_48 (c := 70) (len := 826) zr_151_24 rfl rfl (by omega) (by omega) ?_
        intro x10 ex10
        have bx10 := ib_70_s1 hI0 (k := (((450 + (52 * a0)) + 1)).toNat) (by omega)
        rw [← ex10] at bx10
        clear ex10
        refine zw_9 (L' := [(2, 69), (0, a0), (0, x10)]) zr_151_25 (Nat.le_of_ble_eq_true rfl) rfl ?_
        refine zw_7 zr_151_26 rfl ?_
        refine zw_46r (s := 70) zr_151_27 rfl rfl rfl rfl ?_
        refine zw_push zr_151_30 ?_
        refine zw_push zr_151_33 ?_
        refine zw_3 zr_151_35 rfl ?_
        refine zw_18 zr_151_36 (by omega) ?_
        refine zw_16 zr_151_37 (by omega) ?_
        refine zw_push zr_151_38 ?_
        refine zw_16 zr_151_39 (by omega) ?_
        refine zw_push zr_151_40 ?_
        refine zw_49 (c := 70) (len := 826) zr_151_41 rfl rfl (by omega) (by omega) ?_
        intro m11 em11
        have hIm11 : zInv m11 := by rw [em11]; exact iu_70_s1 hI0 (by omega) (by omega)
        have hFm11 : zFr W_151 m0 m11 := by rw [em11]; exact hF0.any rfl
        clear em11
        refine zw_3 zr_151_42 rfl ?_
        refine zw_R zr_151_43 (by decide) zm_151 (v := (0, x10)) rfl ?_
        rw [← hQ]; exact ⟨_, rfl, by omega, by omega, hIm11, hFm11⟩
      · intro h12; omega

abbrev W_6 : List (Nat × Nat) := [(45, 6)]
set_option maxHeartbeats 8000000 in
theorem th_6 {E : zE} {d : Nat} {m0 : zM} (hd : 1 ≤ d) (hI0 : zInv m0) : zC E d 6 [(2, 45)] m0 (fun v m' => ∃ r : Int, v = (0, r) ∧ (-1) ≤ r ∧ r ≤ 127 ∧ zInv m' ∧ zFr W_6 m0 m' ∧ (r = -1 ∨ m' 45 6 ≤ 49)) := by
  have hF0 : zFr W_6 m0 m0 := zFr.rfl
  generalize hQ : (fun (v : zV) (m' : zM) => ∃ r : Int, v = (0, r) ∧ (-1) ≤ r ∧ r ≤ 127 ∧ zInv m' ∧ zFr W_6 m0 m' ∧ (r = -1 ∨ m' 45 6 ≤ 49)) = Q
  show zW E d 6 0 [(2, 45)] [] m0 Q
  refine zw_7 zr_6_0 rfl ?_
  obtain ⟨f1, ef1⟩ : ∃ v, m0 45 1 = v := ⟨_, rfl⟩
  have bf1 := hI0.fi (c := 45) (k := 1) rfl
  rw [ef1] at bf1
  refine zw_46i zr_6_1 ef1 rfl rfl rfl ?_
  refine zw_push zr_6_4 ?_
  refine zw_41_1 zr_6_5 ?_ ?_
  · intro h2
    obtain ⟨f5, ef5⟩ : ∃ v, m0 45 6 = v := ⟨_, rfl⟩
    have bf5 := ib_45_6 hI0
    rw [ef5] at bf5
    have lp10_6 : ∀ (nlp10_6 : Nat) (p4 : Int) (m3 : zM), zInv m3 → zFr W_6 m0 m3 → m3 45 1 = f1 → m3 45 6 = p4 → 0 ≤ p4 → p4 ≤ 50 → (50 - p4).toNat < nlp10_6 → zW E (d) 6 10 [(2, 45)] [] m3 Q := by
      intro nlp10_6
      induction nlp10_6 with
      | zero =>
        intros
        exact absurd (by assumption : _ < 0) (Nat.not_lt_zero _)
      | succ nlp10_6 ihlp10_6 =>
        intro p4 m3 hIm3 hFm3 km3_45_1 km3_45_6 lp4 up4 hmlp10_6
        refine zw_7 zr_6_10 rfl ?_
        refine zw_46i zr_6_11 km3_45_6 rfl rfl rfl ?_
        refine zw_7 zr_6_14 rfl ?_
        obtain ⟨f8, ef8⟩ : ∃ v, m3 45 5 = v := ⟨_, rfl⟩
        have bf8 := ib_45_5 hIm3
        rw [ef8] at bf8
        refine zw_46i zr_6_15 ef8 rfl rfl rfl ?_
        refine zw_41_3 zr_6_18 ?_ ?_
        · intro h9
          refine zw_7 zr_6_48 rfl ?_
          refine zw_46i zr_6_49 km3_45_6 rfl rfl rfl ?_
          refine zw_7 zr_6_52 rfl ?_
          refine zw_46i zr_6_53 ef8 rfl rfl rfl ?_
          refine zw_41_3 zr_6_56 ?_ ?_
          · intro h10
            refine zw_push zr_6_71 ?_
            refine zw_R zr_6_72 (by decide) zm_6 (v := (0, (-1))) rfl ?_
            rw [← hQ]; exact ⟨_, rfl, by omega, by omega, hIm3, hFm3, by omega⟩
          · intro h11
            refine zw_7 zr_6_59 rfl ?_
            refine zw_46r (s := 47) zr_6_60 rfl rfl rfl rfl ?_
            refine zw_7 zr_6_63 rfl ?_
            refine zw_46i zr_6_64 km3_45_6 rfl rfl rfl ?_
            refine zw_48 (c := 47) (len := 50) zr_6_67 rfl rfl (by omega) (by omega) ?_
            intro x12 ex12
            have bx12 := ib_47 hIm3 (k := (p4).toNat) (by omega)
            rw [← ex12] at bx12
            clear ex12
            refine zw_42 zr_6_68 ?_
            refine zw_R zr_6_72 (by decide) zm_6 (v := (0, x12)) rfl ?_
            rw [← hQ]; exact ⟨_, rfl, by omega, by omega, hIm3, hFm3, by omega⟩
        · intro h13
          refine zw_7 zr_6_21 rfl ?_
          refine zw_46r (s := 47) zr_6_22 rfl rfl rfl rfl ?_
          refine zw_7 zr_6_25 rfl ?_
          refine zw_46i zr_6_26 km3_45_6 rfl rfl rfl ?_
          refine zw_48 (c := 47) (len := 50) zr_6_29 rfl rfl (by omega) (by omega) ?_
          intro x14 ex14
          have bx14 := ib_47 hIm3 (k := (p4).toNat) (by omega)
          rw [← ex14] at bx14
          refine zw_push zr_6_30 ?_
          refine zw_41_4 zr_6_32 ?_ ?_
          · intro h15
            refine zw_7 zr_6_48 rfl ?_
            refine zw_46i zr_6_49 km3_45_6 rfl rfl rfl ?_
            refine zw_7 zr_6_52 rfl ?_
            refine zw_46i zr_6_53 ef8 rfl rfl rfl ?_
            refine zw_41_3 zr_6_56 ?_ ?_
            · intro h16
              refine zw_push zr_6_71 ?_
              refine zw_R zr_6_72 (by decide) zm_6 (v := (0, (-1))) rfl ?_
              rw [← hQ]; exact ⟨_, rfl, by omega, by omega, hIm3, hFm3, by omega⟩
            · intro h17
              refine zw_7 zr_6_59 rfl ?_
              refine zw_46r (s := 47) zr_6_60 rfl rfl rfl rfl ?_
              refine zw_7 zr_6_63 rfl ?_
              refine zw_46i zr_6_64 km3_45_6 rfl rfl rfl ?_
              refine zw_48k (c := 47) (len := 50) zr_6_67 rfl rfl (by omega) (by omega) rfl ex14.symm ?_
              refine zw_42 zr_6_68 ?_
              refine zw_R zr_6_72 (by decide) zm_6 (v := (0, x14)) rfl ?_
              rw [← hQ]; exact ⟨_, rfl, by omega, by omega, hIm3, hFm3, by omega⟩
          · intro h18
            refine zw_7 zr_6_35 rfl ?_
            refine zw_43 zr_6_36 rfl ?_
            refine zw_46i zr_6_37 km3_45_6 rfl rfl rfl ?_
            refine zw_push zr_6_40 ?_
            refine zw_16 zr_6_41 (by omega) ?_
            refine zw_47 (c := 45) zr_6_42 rfl ⟨rfl, by decide, rfl⟩ ?_
            intro m19 em19
            have hIm19 : zInv m19 := by rw [em19]; exact hIm3.bd (r := 45) (k := 6) (lo := 0) (hi := 50) rfl (by omega) (by decide) (by decide) (by decide)
            have hFm19 : zFr W_6 m0 m19 := by rw [em19]; exact hFm3.up rfl
            have km19_45_1 : m19 45 1 = f1 := by rw [em19, zUp_ne (by omega)]; exact km3_45_1
            have km19_45_5 : m19 45 5 = f8 := by rw [em19, zUp_ne (by omega)]; exact ef8
            have km19_45_6 : m19 45 6 = (p4 + 1) := by rw [em19]; exact zUp_eq _ _ _ _
            clear em19
            refine zw_42 zr_6_45 ?_
            exact zw_less (L := [(2, 45)]) ⟨Or.inr rfl, trivial⟩ (ihlp10_6 ((p4 + 1)) m19 hIm19 hFm19  km19_45_1 km19_45_6 (by omega) (by omega) (by omega))
    exact lp10_6 _ (f5) m0 hI0 hF0  ef1 ef5 (by omega) (by omega) (Nat.lt_succ_self _)
  · intro h20
    refine zw_push zr_6_8 ?_
    refine zw_R zr_6_9 (by decide) zm_6 (v := (0, (-1))) rfl ?_
    rw [← hQ]; exact ⟨_, rfl, by omega, by omega, hI0, hF0, by omega⟩

abbrev W_11 : List (Nat × Nat) := [(45, 8), (48, 1000)]
set_option maxHeartbeats 8000000 in
theorem th_11 {E : zE} {d : Nat} {m0 : zM} {a0 : Int} {a1 : Int} (hd : 2 ≤ d) (hI0 : zInv m0) (ha0 : 0 ≤ a0 ∧ a0 ≤ 50) (ha1 : 0 ≤ a1 ∧ a1 ≤ 50) : zC E d 11 [(2, 45), (0, a0), (0, a1)] m0 (fun v m' => v = (9, 0) ∧ zInv m' ∧ zFr W_11 m0 m') := by
  have hF0 : zFr W_11 m0 m0 := zFr.rfl
  generalize hQ : (fun (v : zV) (m' : zM) => v = (9, 0) ∧ zInv m' ∧ zFr W_11 m0 m') = Q
  show zW E d 11 0 [(2, 45), (0, a0), (0, a1), (9, 0)] [] m0 Q
  refine zw_3 zr_11_0 rfl ?_
  refine zw_push zr_11_1 ?_
  refine zw_17 zr_11_2 (by omega) ?_
  refine zw_9 (L' := [(2, 45), (0, a0), (0, a1), (0, (a1 - 1))]) zr_11_3 (Nat.le_of_ble_eq_true rfl) rfl ?_
  have lp4_3 : ∀ (nlp4_3 : Nat) (i1 : Int) (m2 : zM), zInv m2 → zFr W_11 m0 m2 → (-1) ≤ i1 → i1 ≤ 49 → (i1 - (-1)).toNat < nlp4_3 → zW E (d) 11 4 [(2, 45), (0, a0), (0, a1), (0, i1)] [] m2 Q := by
    intro nlp4_3
    induction nlp4_3 with
    | zero =>
      intros
      exact absurd (by assumption : _ < 0) (Nat.not_lt_zero _)
    | succ nlp4_3 ihlp4_3 =>
      intro i1 m2 hIm2 hFm2 li1 ui1 hmlp4_3
      refine zw_3 zr_11_4 rfl ?_
      refine zw_3 zr_11_5 rfl ?_
      refine zw_41_0 zr_11_6 ?_ ?_
      · intro h5
        refine zw_R zr_11_52 (by decide) zm_11 (v := (9, 0)) rfl ?_
        rw [← hQ]; exact ⟨rfl, hIm2, hFm2⟩
      · intro h6
        refine zw_7 zr_11_9 rfl ?_
        refine zw_46r (s := 47) zr_11_10 rfl rfl rfl rfl ?_
        refine zw_3 zr_11_13 rfl ?_
        refine zw_48 (c := 47) (len := 50) zr_11_14 rfl rfl (by omega) (by omega) ?_
        intro x7 ex7
        have bx7 := ib_47 hIm2 (k := (i1).toNat) (by omega)
        rw [← ex7] at bx7
        refine zw_push zr_11_15 ?_
        refine zw_41_4 zr_11_17 ?_ ?_
        · intro h8
          refine zw_7 zr_11_29 rfl ?_
          refine zw_46r (s := 47) zr_11_30 rfl rfl rfl rfl ?_
          refine zw_3 zr_11_33 rfl ?_
          refine zw_48k (c := 47) (len := 50) zr_11_34 rfl rfl (by omega) (by omega) rfl ex7.symm ?_
          refine zw_push zr_11_35 ?_
          refine zw_41_4 zr_11_37 ?_ ?_
          · intro h9
            refine zw_15 (c := (-1)) (L' := [(2, 45), (0, a0), (0, a1), (0, (i1 + (-1)))]) zr_11_46 rfl (by decide) (by omega) rfl ?_
            refine zw_42 zr_11_49 ?_
            exact zw_less (L := [(2, 45), (0, a0), (0, a1), (0, (i1 + (-1)))]) ⟨Or.inr rfl, Or.inr rfl, Or.inr rfl, Or.inr rfl, trivial⟩ (ihlp4_3 ((i1 + (-1))) m2 hIm2 hFm2   (by omega) (by omega) (by omega))
          · intro h10
            refine zw_7 zr_11_40 rfl ?_
            refine zw_push zr_11_41 ?_
            refine zw_C zr_11_43 (Or.inl rfl) zm_8 rfl rfl ⟨Nat.le_of_ble_eq_true rfl, Nat.le_of_ble_eq_true rfl, Nat.le_of_ble_eq_true rfl, rfl, by decide⟩ (by omega) (P := (fun v m' => zW E (d) 11 46 [(2, 45), (0, a0), (0, a1), (0, i1)] (if v.1 = 9 then [] else v :: []) m' Q)) ?_ (fun _ _ h => h)
            generalize hQ1 : (fun v m' => zW E (d) 11 46 [(2, 45), (0, a0), (0, a1), (0, i1)] (if v.1 = 9 then [] else v :: []) m' Q) = Q1
            show zW E (d - 1) 8 0 [(2, 45), (0, (-126))] [] m2 Q1
            refine zw_7 zr_8_0 rfl ?_
            obtain ⟨f11, ef11⟩ : ∃ v, m2 45 8 = v := ⟨_, rfl⟩
            have bf11 := ib_45_8 hIm2
            rw [ef11] at bf11
            refine zw_46i zr_8_1 ef11 rfl rfl rfl ?_
            refine zw_push zr_8_4 ?_
            refine zw_41_3 zr_8_6 ?_ ?_
            · intro h12
              refine zw_R zr_8_29 (by decide) zm_8 (v := (9, 0)) rfl ?_
              rw [← hQ1]
              show zW E (d) 11 46 [(2, 45), (0, a0), (0, a1), (0, i1)] [] m2 Q
              refine zw_15 (c := (-1)) (L' := [(2, 45), (0, a0), (0, a1), (0, (i1 + (-1)))]) zr_11_46 rfl (by decide) (by omega) rfl ?_
              refine zw_42 zr_11_49 ?_
              exact zw_less (L := [(2, 45), (0, a0), (0, a1), (0, (i1 + (-1)))]) ⟨Or.inr rfl, Or.inr rfl, Or.inr rfl, Or.inr rfl, trivial⟩ (ihlp4_3 ((i1 + (-1))) m2 hIm2 hFm2   (by omega) (by omega) (by omega))
            · intro h13
              refine zw_7 zr_8_9 rfl ?_
              refine zw_46r (s := 48) zr_8_10 rfl rfl rfl rfl ?_
              refine zw_7 zr_8_13 rfl ?_
              refine zw_46i zr_8_14 ef11 rfl rfl rfl ?_
              refine zw_3 zr_8_17 rfl ?_
              refine zw_49 (c := 48) (len := 50) zr_8_18 rfl rfl (by omega) (by omega) ?_
              intro m14 em14
              have hIm14 : zInv m14 := by rw [em14]; exact hIm2.any (by omega) rfl (by decide) (by decide)
              have hFm14 : zFr W_11 m0 m14 := by rw [em14]; exact hFm2.any rfl
              have km14_45_8 : m14 45 8 = f11 := by rw [em14, zUp_ne (by omega)]; exact ef11
              clear em14
              refine zw_7 zr_8_19 rfl ?_
              refine zw_43 zr_8_20 rfl ?_
              refine zw_46i zr_8_21 km14_45_8 rfl rfl rfl ?_
              refine zw_push zr_8_24 ?_
              refine zw_16 zr_8_25 (by omega) ?_
              refine zw_47 (c := 45) zr_8_26 rfl ⟨rfl, by decide, rfl⟩ ?_
              intro m15 em15
              have hIm15 : zInv m15 := by rw [em15]; exact hIm14.bd (r := 45) (k := 8) (lo := 0) (hi := 50) rfl (by omega) (by decide) (by decide) (by decide)
              have hFm15 : zFr W_11 m0 m15 := by rw [em15]; exact hFm14.up rfl
              have km15_45_8 : m15 45 8 = (f11 + 1) := by rw [em15]; exact zUp_eq _ _ _ _
              clear em15
              refine zw_R zr_8_29 (by decide) zm_8 (v := (9, 0)) rfl ?_
              rw [← hQ1]
              show zW E (d) 11 46 [(2, 45), (0, a0), (0, a1), (0, i1)] [] m15 Q
              refine zw_15 (c := (-1)) (L' := [(2, 45), (0, a0), (0, a1), (0, (i1 + (-1)))]) zr_11_46 rfl (by decide) (by omega) rfl ?_
              refine zw_42 zr_11_49 ?_
              exact zw_less (L := [(2, 45), (0, a0), (0, a1), (0, (i1 + (-1)))]) ⟨Or.inr rfl, Or.inr rfl, Or.inr rfl, Or.inr rfl, trivial⟩ (ihlp4_3 ((i1 + (-1))) m15 hIm15 hFm15   (by omega) (by omega) (by omega))
        · intro h16
          refine zw_7 zr_11_20 rfl ?_
          refine zw_push zr_11_21 ?_
          refine zw_C zr_11_23 (Or.inl rfl) zm_8 rfl rfl ⟨Nat.le_of_ble_eq_true rfl, Nat.le_of_ble_eq_true rfl, Nat.le_of_ble_eq_true rfl, rfl, by decide⟩ (by omega) (P := (fun v m' => zW E (d) 11 26 [(2, 45), (0, a0), (0, a1), (0, i1)] (if v.1 = 9 then [] else v :: []) m' Q)) ?_ (fun _ _ h => h)
          generalize hQ1 : (fun v m' => zW E (d) 11 26 [(2, 45), (0, a0), (0, a1), (0, i1)] (if v.1 = 9 then [] else v :: []) m' Q) = Q1
          show zW E (d - 1) 8 0 [(2, 45), (0, (-33))] [] m2 Q1
          refine zw_7 zr_8_0 rfl ?_
          obtain ⟨f17, ef17⟩ : ∃ v, m2 45 8 = v := ⟨_, rfl⟩
          have bf17 := ib_45_8 hIm2
          rw [ef17] at bf17
          refine zw_46i zr_8_1 ef17 rfl rfl rfl ?_
          refine zw_push zr_8_4 ?_
          refine zw_41_3 zr_8_6 ?_ ?_
          · intro h18
            refine zw_R zr_8_29 (by decide) zm_8 (v := (9, 0)) rfl ?_
            rw [← hQ1]
            show zW E (d) 11 26 [(2, 45), (0, a0), (0, a1), (0, i1)] [] m2 Q
            refine zw_42 zr_11_26 ?_
            refine zw_15 (c := (-1)) (L' := [(2, 45), (0, a0), (0, a1), (0, (i1 + (-1)))]) zr_11_46 rfl (by decide) (by omega) rfl ?_
            refine zw_42 zr_11_49 ?_
            exact zw_less (L := [(2, 45), (0, a0), (0, a1), (0, (i1 + (-1)))]) ⟨Or.inr rfl, Or.inr rfl, Or.inr rfl, Or.inr rfl, trivial⟩ (ihlp4_3 ((i1 + (-1))) m2 hIm2 hFm2   (by omega) (by omega) (by omega))
          · intro h19
            refine zw_7 zr_8_9 rfl ?_
            refine zw_46r (s := 48) zr_8_10 rfl rfl rfl rfl ?_
            refine zw_7 zr_8_13 rfl ?_
            refine zw_46i zr_8_14 ef17 rfl rfl rfl ?_
            refine zw_3 zr_8_17 rfl ?_
            refine zw_49 (c := 48) (len := 50) zr_8_18 rfl rfl (by omega) (by omega) ?_
            intro m20 em20
            have hIm20 : zInv m20 := by rw [em20]; exact hIm2.any (by omega) rfl (by decide) (by decide)
            have hFm20 : zFr W_11 m0 m20 := by rw [em20]; exact hFm2.any rfl
            have km20_45_8 : m20 45 8 = f17 := by rw [em20, zUp_ne (by omega)]; exact ef17
            clear em20
            refine zw_7 zr_8_19 rfl ?_
            refine zw_43 zr_8_20 rfl ?_
            refine zw_46i zr_8_21 km20_45_8 rfl rfl rfl ?_
            refine zw_push zr_8_24 ?_
            refine zw_16 zr_8_25 (by omega) ?_
            refine zw_47 (c := 45) zr_8_26 rfl ⟨rfl, by decide, rfl⟩ ?_
            intro m21 em21
            have hIm21 : zInv m21 := by rw [em21]; exact hIm20.bd (r := 45) (k := 8) (lo := 0) (hi := 50) rfl (by omega) (by decide) (by decide) (by decide)
            have hFm21 : zFr W_11 m0 m21 := by rw [em21]; exact hFm20.up rfl
            have km21_45_8 : m21 45 8 = (f17 + 1) := by rw [em21]; exact zUp_eq _ _ _ _
            clear em21
            refine zw_R zr_8_29 (by decide) zm_8 (v := (9, 0)) rfl ?_
            rw [← hQ1]
            show zW E (d) 11 26 [(2, 45), (0, a0), (0, a1), (0, i1)] [] m21 Q
            refine zw_42 zr_11_26 ?_
            refine zw_15 (c := (-1)) (L' := [(2, 45), (0, a0), (0, a1), (0, (i1 + (-1)))]) zr_11_46 rfl (by decide) (by omega) rfl ?_
            refine zw_42 zr_11_49 ?_
            exact zw_less (L := [(2, 45), (0, a0), (0, a1), (0, (i1 + (-1)))]) ⟨Or.inr rfl, Or.inr rfl, Or.inr rfl, Or.inr rfl, trivial⟩ (ihlp4_3 ((i1 + (-1))) m21 hIm21 hFm21   (by omega) (by omega) (by omega))
  exact lp4_3 _ ((a1 - 1)) m0 hI0 hF0   (by omega) (by omega) (Nat.lt_succ_self _)

abbrev W_9 : List (Nat × Nat) := [(45, 1), (45, 6), (45, 8), (48, 1000)]
set_option maxHeartbeats 8000000 in
theorem th_9 {E : zE} {d : Nat} {m0 : zM} (hd : 2 ≤ d) (hI0 : zInv m0) : zC E d 9 [(2, 45)] m0 (fun v m' => v = (9, 0) ∧ zInv m' ∧ zFr W_9 m0 m') := by
  have hF0 : zFr W_9 m0 m0 := zFr.rfl
  generalize hQ : (fun (v : zV) (m' : zM) => v = (9, 0) ∧ zInv m' ∧ zFr W_9 m0 m') = Q
  show zW E d 9 0 [(2, 45), (9, 0), (9, 0)] [] m0 Q
  refine zw_7 zr_9_0 rfl ?_
  obtain ⟨f1, ef1⟩ : ∃ v, m0 45 6 = v := ⟨_, rfl⟩
  have bf1 := ib_45_6 hI0
  rw [ef1] at bf1
  refine zw_46i zr_9_1 ef1 rfl rfl rfl ?_
  refine zw_9 (L' := [(2, 45), (0, f1), (9, 0)]) zr_9_4 (Nat.le_of_ble_eq_true rfl) rfl ?_
  refine zw_push zr_9_5 ?_
  refine zw_9 (L' := [(2, 45), (0, f1), (0, 0)]) zr_9_6 (Nat.le_of_ble_eq_true rfl) rfl ?_
  have lp7_5 : ∀ (nlp7_5 : Nat) (i2 p4 : Int) (m3 : zM), zInv m3 → zFr W_9 m0 m3 → m3 45 6 = p4 → (-2147483648) ≤ i2 → i2 ≤ 2147483647 → 0 ≤ p4 → p4 ≤ 50 → (50 - p4).toNat < nlp7_5 → zW E (d) 9 7 [(2, 45), (0, f1), (0, i2)] [] m3 Q := by
    intro nlp7_5
    induction nlp7_5 with
    | zero =>
      intros
      exact absurd (by assumption : _ < 0) (Nat.not_lt_zero _)
    | succ nlp7_5 ihlp7_5 =>
      intro i2 p4 m3 hIm3 hFm3 km3_45_6 li2 ui2 lp4 up4 hmlp7_5
      refine zw_7 zr_9_7 rfl ?_
      refine zw_46i zr_9_8 km3_45_6 rfl rfl rfl ?_
      refine zw_7 zr_9_11 rfl ?_
      obtain ⟨f7, ef7⟩ : ∃ v, m3 45 5 = v := ⟨_, rfl⟩
      have bf7 := ib_45_5 hIm3
      rw [ef7] at bf7
      refine zw_46i zr_9_12 ef7 rfl rfl rfl ?_
      refine zw_41_3 zr_9_15 ?_ ?_
      · intro h8
        refine zw_7 zr_9_99 rfl ?_
        refine zw_3 zr_9_100 rfl ?_
        refine zw_C zr_9_101 (Or.inl rfl) zm_8 rfl rfl ⟨Nat.le_of_ble_eq_true rfl, Nat.le_of_ble_eq_true rfl, Nat.le_of_ble_eq_true rfl, rfl, by decide⟩ (by omega) (P := (fun v m' => zW E (d) 9 104 [(2, 45), (0, f1), (0, i2)] (if v.1 = 9 then [] else v :: []) m' Q)) ?_ (fun _ _ h => h)
        generalize hQ1 : (fun v m' => zW E (d) 9 104 [(2, 45), (0, f1), (0, i2)] (if v.1 = 9 then [] else v :: []) m' Q) = Q1
        show zW E (d - 1) 8 0 [(2, 45), (0, i2)] [] m3 Q1
        refine zw_7 zr_8_0 rfl ?_
        obtain ⟨f9, ef9⟩ : ∃ v, m3 45 8 = v := ⟨_, rfl⟩
        have bf9 := ib_45_8 hIm3
        rw [ef9] at bf9
        refine zw_46i zr_8_1 ef9 rfl rfl rfl ?_
        refine zw_push zr_8_4 ?_
        refine zw_41_3 zr_8_6 ?_ ?_
        · intro h10
          refine zw_R zr_8_29 (by decide) zm_8 (v := (9, 0)) rfl ?_
          rw [← hQ1]
          show zW E (d) 9 104 [(2, 45), (0, f1), (0, i2)] [] m3 Q
          refine zw_R zr_9_104 (by decide) zm_9 (v := (9, 0)) rfl ?_
          rw [← hQ]; exact ⟨rfl, hIm3, hFm3⟩
        · intro h11
          refine zw_7 zr_8_9 rfl ?_
          refine zw_46r (s := 48) zr_8_10 rfl rfl rfl rfl ?_
          refine zw_7 zr_8_13 rfl ?_
          refine zw_46i zr_8_14 ef9 rfl rfl rfl ?_
          refine zw_3 zr_8_17 rfl ?_
          refine zw_49 (c := 48) (len := 50) zr_8_18 rfl rfl (by omega) (by omega) ?_
          intro m12 em12
          have hIm12 : zInv m12 := by rw [em12]; exact hIm3.any (by omega) rfl (by decide) (by decide)
          have hFm12 : zFr W_9 m0 m12 := by rw [em12]; exact hFm3.any rfl
          have km12_45_6 : m12 45 6 = p4 := by rw [em12, zUp_ne (by omega)]; exact km3_45_6
          have km12_45_5 : m12 45 5 = f7 := by rw [em12, zUp_ne (by omega)]; exact ef7
          have km12_45_8 : m12 45 8 = f9 := by rw [em12, zUp_ne (by omega)]; exact ef9
          clear em12
          refine zw_7 zr_8_19 rfl ?_
          refine zw_43 zr_8_20 rfl ?_
          refine zw_46i zr_8_21 km12_45_8 rfl rfl rfl ?_
          refine zw_push zr_8_24 ?_
          refine zw_16 zr_8_25 (by omega) ?_
          refine zw_47 (c := 45) zr_8_26 rfl ⟨rfl, by decide, rfl⟩ ?_
          intro m13 em13
          have hIm13 : zInv m13 := by rw [em13]; exact hIm12.bd (r := 45) (k := 8) (lo := 0) (hi := 50) rfl (by omega) (by decide) (by decide) (by decide)
          have hFm13 : zFr W_9 m0 m13 := by rw [em13]; exact hFm12.up rfl
          have km13_45_6 : m13 45 6 = p4 := by rw [em13, zUp_ne (by omega)]; exact km12_45_6
          have km13_45_5 : m13 45 5 = f7 := by rw [em13, zUp_ne (by omega)]; exact km12_45_5
          have km13_45_8 : m13 45 8 = (f9 + 1) := by rw [em13]; exact zUp_eq _ _ _ _
          clear em13
          refine zw_R zr_8_29 (by decide) zm_8 (v := (9, 0)) rfl ?_
          rw [← hQ1]
          show zW E (d) 9 104 [(2, 45), (0, f1), (0, i2)] [] m13 Q
          refine zw_R zr_9_104 (by decide) zm_9 (v := (9, 0)) rfl ?_
          rw [← hQ]; exact ⟨rfl, hIm13, hFm13⟩
      · intro h14
        refine zw_7 zr_9_18 rfl ?_
        refine zw_46r (s := 47) zr_9_19 rfl rfl rfl rfl ?_
        refine zw_7 zr_9_22 rfl ?_
        refine zw_46i zr_9_23 km3_45_6 rfl rfl rfl ?_
        refine zw_48 (c := 47) (len := 50) zr_9_26 rfl rfl (by omega) (by omega) ?_
        intro x15 ex15
        have bx15 := ib_47 hIm3 (k := (p4).toNat) (by omega)
        rw [← ex15] at bx15
        refine zw_push zr_9_27 ?_
        refine zw_41_0 zr_9_29 ?_ ?_
        · intro h16
          refine zw_7 zr_9_99 rfl ?_
          refine zw_3 zr_9_100 rfl ?_
          refine zw_C zr_9_101 (Or.inl rfl) zm_8 rfl rfl ⟨Nat.le_of_ble_eq_true rfl, Nat.le_of_ble_eq_true rfl, Nat.le_of_ble_eq_true rfl, rfl, by decide⟩ (by omega) (P := (fun v m' => zW E (d) 9 104 [(2, 45), (0, f1), (0, i2)] (if v.1 = 9 then [] else v :: []) m' Q)) ?_ (fun _ _ h => h)
          generalize hQ1 : (fun v m' => zW E (d) 9 104 [(2, 45), (0, f1), (0, i2)] (if v.1 = 9 then [] else v :: []) m' Q) = Q1
          show zW E (d - 1) 8 0 [(2, 45), (0, i2)] [] m3 Q1
          refine zw_7 zr_8_0 rfl ?_
          obtain ⟨f17, ef17⟩ : ∃ v, m3 45 8 = v := ⟨_, rfl⟩
          have bf17 := ib_45_8 hIm3
          rw [ef17] at bf17
          refine zw_46i zr_8_1 ef17 rfl rfl rfl ?_
          refine zw_push zr_8_4 ?_
          refine zw_41_3 zr_8_6 ?_ ?_
          · intro h18
            refine zw_R zr_8_29 (by decide) zm_8 (v := (9, 0)) rfl ?_
            rw [← hQ1]
            show zW E (d) 9 104 [(2, 45), (0, f1), (0, i2)] [] m3 Q
            refine zw_R zr_9_104 (by decide) zm_9 (v := (9, 0)) rfl ?_
            rw [← hQ]; exact ⟨rfl, hIm3, hFm3⟩
          · intro h19
            refine zw_7 zr_8_9 rfl ?_
            refine zw_46r (s := 48) zr_8_10 rfl rfl rfl rfl ?_
            refine zw_7 zr_8_13 rfl ?_
            refine zw_46i zr_8_14 ef17 rfl rfl rfl ?_
            refine zw_3 zr_8_17 rfl ?_
            refine zw_49 (c := 48) (len := 50) zr_8_18 rfl rfl (by omega) (by omega) ?_
            intro m20 em20
            have hIm20 : zInv m20 := by rw [em20]; exact hIm3.any (by omega) rfl (by decide) (by decide)
            have hFm20 : zFr W_9 m0 m20 := by rw [em20]; exact hFm3.any rfl
            have km20_45_6 : m20 45 6 = p4 := by rw [em20, zUp_ne (by omega)]; exact km3_45_6
            have km20_45_5 : m20 45 5 = f7 := by rw [em20, zUp_ne (by omega)]; exact ef7
            have km20_45_8 : m20 45 8 = f17 := by rw [em20, zUp_ne (by omega)]; exact ef17
            clear em20
            refine zw_7 zr_8_19 rfl ?_
            refine zw_43 zr_8_20 rfl ?_
            refine zw_46i zr_8_21 km20_45_8 rfl rfl rfl ?_
            refine zw_push zr_8_24 ?_
            refine zw_16 zr_8_25 (by omega) ?_
            refine zw_47 (c := 45) zr_8_26 rfl ⟨rfl, by decide, rfl⟩ ?_
            intro m21 em21
            have hIm21 : zInv m21 := by rw [em21]; exact hIm20.bd (r := 45) (k := 8) (lo := 0) (hi := 50) rfl (by omega) (by decide) (by decide) (by decide)
            have hFm21 : zFr W_9 m0 m21 := by rw [em21]; exact hFm20.up rfl
            have km21_45_6 : m21 45 6 = p4 := by rw [em21, zUp_ne (by omega)]; exact km20_45_6
            have km21_45_5 : m21 45 5 = f7 := by rw [em21, zUp_ne (by omega)]; exact km20_45_5
            have km21_45_8 : m21 45 8 = (f17 + 1) := by rw [em21]; exact zUp_eq _ _ _ _
            clear em21
            refine zw_R zr_8_29 (by decide) zm_8 (v := (9, 0)) rfl ?_
            rw [← hQ1]
            show zW E (d) 9 104 [(2, 45), (0, f1), (0, i2)] [] m21 Q
            refine zw_R zr_9_104 (by decide) zm_9 (v := (9, 0)) rfl ?_
            rw [← hQ]; exact ⟨rfl, hIm21, hFm21⟩
        · intro h22
          refine zw_7 zr_9_32 rfl ?_
          refine zw_46r (s := 47) zr_9_33 rfl rfl rfl rfl ?_
          refine zw_7 zr_9_36 rfl ?_
          refine zw_46i zr_9_37 km3_45_6 rfl rfl rfl ?_
          refine zw_48k (c := 47) (len := 50) zr_9_40 rfl rfl (by omega) (by omega) rfl ex15.symm ?_
          refine zw_push zr_9_41 ?_
          refine zw_41_2 zr_9_43 ?_ ?_
          · intro h23
            refine zw_7 zr_9_99 rfl ?_
            refine zw_3 zr_9_100 rfl ?_
            refine zw_C zr_9_101 (Or.inl rfl) zm_8 rfl rfl ⟨Nat.le_of_ble_eq_true rfl, Nat.le_of_ble_eq_true rfl, Nat.le_of_ble_eq_true rfl, rfl, by decide⟩ (by omega) (P := (fun v m' => zW E (d) 9 104 [(2, 45), (0, f1), (0, i2)] (if v.1 = 9 then [] else v :: []) m' Q)) ?_ (fun _ _ h => h)
            generalize hQ1 : (fun v m' => zW E (d) 9 104 [(2, 45), (0, f1), (0, i2)] (if v.1 = 9 then [] else v :: []) m' Q) = Q1
            show zW E (d - 1) 8 0 [(2, 45), (0, i2)] [] m3 Q1
            refine zw_7 zr_8_0 rfl ?_
            obtain ⟨f24, ef24⟩ : ∃ v, m3 45 8 = v := ⟨_, rfl⟩
            have bf24 := ib_45_8 hIm3
            rw [ef24] at bf24
            refine zw_46i zr_8_1 ef24 rfl rfl rfl ?_
            refine zw_push zr_8_4 ?_
            refine zw_41_3 zr_8_6 ?_ ?_
            · intro h25
              refine zw_R zr_8_29 (by decide) zm_8 (v := (9, 0)) rfl ?_
              rw [← hQ1]
              show zW E (d) 9 104 [(2, 45), (0, f1), (0, i2)] [] m3 Q
              refine zw_R zr_9_104 (by decide) zm_9 (v := (9, 0)) rfl ?_
              rw [← hQ]; exact ⟨rfl, hIm3, hFm3⟩
            · intro h26
              refine zw_7 zr_8_9 rfl ?_
              refine zw_46r (s := 48) zr_8_10 rfl rfl rfl rfl ?_
              refine zw_7 zr_8_13 rfl ?_
              refine zw_46i zr_8_14 ef24 rfl rfl rfl ?_
              refine zw_3 zr_8_17 rfl ?_
              refine zw_49 (c := 48) (len := 50) zr_8_18 rfl rfl (by omega) (by omega) ?_
              intro m27 em27
              have hIm27 : zInv m27 := by rw [em27]; exact hIm3.any (by omega) rfl (by decide) (by decide)
              have hFm27 : zFr W_9 m0 m27 := by rw [em27]; exact hFm3.any rfl
              have km27_45_6 : m27 45 6 = p4 := by rw [em27, zUp_ne (by omega)]; exact km3_45_6
              have km27_45_5 : m27 45 5 = f7 := by rw [em27, zUp_ne (by omega)]; exact ef7
              have km27_45_8 : m27 45 8 = f24 := by rw [em27, zUp_ne (by omega)]; exact ef24
              clear em27
              refine zw_7 zr_8_19 rfl ?_
              refine zw_43 zr_8_20 rfl ?_
              refine zw_46i zr_8_21 km27_45_8 rfl rfl rfl ?_
              refine zw_push zr_8_24 ?_
              refine zw_16 zr_8_25 (by omega) ?_
              refine zw_47 (c := 45) zr_8_26 rfl ⟨rfl, by decide, rfl⟩ ?_
              intro m28 em28
              have hIm28 : zInv m28 := by rw [em28]; exact hIm27.bd (r := 45) (k := 8) (lo := 0) (hi := 50) rfl (by omega) (by decide) (by decide) (by decide)
              have hFm28 : zFr W_9 m0 m28 := by rw [em28]; exact hFm27.up rfl
              have km28_45_6 : m28 45 6 = p4 := by rw [em28, zUp_ne (by omega)]; exact km27_45_6
              have km28_45_5 : m28 45 5 = f7 := by rw [em28, zUp_ne (by omega)]; exact km27_45_5
              have km28_45_8 : m28 45 8 = (f24 + 1) := by rw [em28]; exact zUp_eq _ _ _ _
              clear em28
              refine zw_R zr_8_29 (by decide) zm_8 (v := (9, 0)) rfl ?_
              rw [← hQ1]
              show zW E (d) 9 104 [(2, 45), (0, f1), (0, i2)] [] m28 Q
              refine zw_R zr_9_104 (by decide) zm_9 (v := (9, 0)) rfl ?_
              rw [← hQ]; exact ⟨rfl, hIm28, hFm28⟩
          · intro h29
            refine zw_7 zr_9_46 rfl ?_
            refine zw_46i zr_9_47 km3_45_6 rfl rfl rfl ?_
            refine zw_3 zr_9_50 rfl ?_
            refine zw_17 zr_9_51 (by omega) ?_
            refine zw_push zr_9_52 ?_
            refine zw_41_0 zr_9_54 ?_ ?_
            · intro h30
              refine zw_3 zr_9_68 rfl ?_
              refine zw_push zr_9_69 ?_
              refine zw_18h zr_9_71 ?_
              intro x31 hx31a hx31b
              refine zw_7 zr_9_72 rfl ?_
              refine zw_46r (s := 47) zr_9_73 rfl rfl rfl rfl ?_
              refine zw_7 zr_9_76 rfl ?_
              refine zw_46i zr_9_77 km3_45_6 rfl rfl rfl ?_
              refine zw_48k (c := 47) (len := 50) zr_9_80 rfl rfl (by omega) (by omega) rfl ex15.symm ?_
              refine zw_16h zr_9_81 ?_
              intro x32 hx32a hx32b
              refine zw_push zr_9_82 ?_
              refine zw_17h zr_9_84 ?_
              intro x33 hx33a hx33b
              refine zw_9 (L' := [(2, 45), (0, f1), (0, x33)]) zr_9_85 (Nat.le_of_ble_eq_true rfl) rfl ?_
              refine zw_7 zr_9_86 rfl ?_
              refine zw_43 zr_9_87 rfl ?_
              refine zw_46i zr_9_88 km3_45_6 rfl rfl rfl ?_
              refine zw_push zr_9_91 ?_
              refine zw_16 zr_9_92 (by omega) ?_
              refine zw_47 (c := 45) zr_9_93 rfl ⟨rfl, by decide, rfl⟩ ?_
              intro m34 em34
              have hIm34 : zInv m34 := by rw [em34]; exact hIm3.bd (r := 45) (k := 6) (lo := 0) (hi := 50) rfl (by omega) (by decide) (by decide) (by decide)
              have hFm34 : zFr W_9 m0 m34 := by rw [em34]; exact hFm3.up rfl
              have km34_45_5 : m34 45 5 = f7 := by rw [em34, zUp_ne (by omega)]; exact ef7
              have km34_45_6 : m34 45 6 = (p4 + 1) := by rw [em34]; exact zUp_eq _ _ _ _
              clear em34
              refine zw_42 zr_9_96 ?_
              exact zw_less (L := [(2, 45), (0, f1), (0, x33)]) ⟨Or.inr rfl, Or.inr rfl, Or.inr rfl, trivial⟩ (ihlp7_5 (x33) ((p4 + 1)) m34 hIm34 hFm34  km34_45_6 (by omega) (by omega) (by omega) (by omega) (by omega))
            · intro h35
              refine zw_7 zr_9_57 rfl ?_
              refine zw_3 zr_9_58 rfl ?_
              refine zw_47 (c := 45) zr_9_59 rfl ⟨rfl, by decide, rfl⟩ ?_
              intro m36 em36
              have hIm36 : zInv m36 := by rw [em36]; exact hIm3.bd (r := 45) (k := 6) (lo := 0) (hi := 50) rfl (by omega) (by decide) (by decide) (by decide)
              have hFm36 : zFr W_9 m0 m36 := by rw [em36]; exact hFm3.up rfl
              have km36_45_5 : m36 45 5 = f7 := by rw [em36, zUp_ne (by omega)]; exact ef7
              have km36_45_6 : m36 45 6 = f1 := by rw [em36]; exact zUp_eq _ _ _ _
              clear em36
              refine zw_7 zr_9_62 rfl ?_
              refine zw_push zr_9_63 ?_
              refine zw_C zr_9_64 (Or.inl rfl) zm_5 rfl rfl ⟨Nat.le_of_ble_eq_true rfl, Nat.le_of_ble_eq_true rfl, Nat.le_of_ble_eq_true rfl, rfl, by decide⟩ (by omega) (P := (fun v m' => zW E (d) 9 67 [(2, 45), (0, f1), (0, i2)] (if v.1 = 9 then [] else v :: []) m' Q)) ?_ (fun _ _ h => h)
              generalize hQ1 : (fun v m' => zW E (d) 9 67 [(2, 45), (0, f1), (0, i2)] (if v.1 = 9 then [] else v :: []) m' Q) = Q1
              show zW E (d - 1) 5 0 [(2, 45), (0, 2)] [] m36 Q1
              refine zw_7 zr_5_0 rfl ?_
              obtain ⟨f37, ef37⟩ : ∃ v, m36 45 1 = v := ⟨_, rfl⟩
              have bf37 := hIm36.fi (c := 45) (k := 1) rfl
              rw [ef37] at bf37
              refine zw_46i zr_5_1 ef37 rfl rfl rfl ?_
              refine zw_push zr_5_4 ?_
              refine zw_41_4 zr_5_5 ?_ ?_
              · intro h38
                refine zw_R zr_5_21 (by decide) zm_5 (v := (9, 0)) rfl ?_
                rw [← hQ1]
                show zW E (d) 9 67 [(2, 45), (0, f1), (0, i2)] [] m36 Q
                refine zw_R zr_9_67 (by decide) zm_9 (v := (9, 0)) rfl ?_
                rw [← hQ]; exact ⟨rfl, hIm36, hFm36⟩
              · intro h39
                refine zw_7 zr_5_8 rfl ?_
                refine zw_7 zr_5_9 rfl ?_
                refine zw_46i zr_5_10 km36_45_6 rfl rfl rfl ?_
                refine zw_push zr_5_13 ?_
                refine zw_18 zr_5_15 (by omega) ?_
                refine zw_3 zr_5_16 rfl ?_
                refine zw_16 zr_5_17 (by omega) ?_
                refine zw_47 (c := 45) zr_5_18 rfl ⟨rfl, by decide, rfl⟩ ?_
                intro m40 em40
                have hIm40 : zInv m40 := by rw [em40]; exact hIm36.any (by omega) rfl (by decide) (by decide)
                have hFm40 : zFr W_9 m0 m40 := by rw [em40]; exact hFm36.up rfl
                have km40_45_5 : m40 45 5 = f7 := by rw [em40, zUp_ne (by omega)]; exact km36_45_5
                have km40_45_6 : m40 45 6 = f1 := by rw [em40, zUp_ne (by omega)]; exact km36_45_6
                have km40_45_1 : m40 45 1 = ((f1 * 10) + 2) := by rw [em40]; exact zUp_eq _ _ _ _
                clear em40
                refine zw_R zr_5_21 (by decide) zm_5 (v := (9, 0)) rfl ?_
                rw [← hQ1]
                show zW E (d) 9 67 [(2, 45), (0, f1), (0, i2)] [] m40 Q
                refine zw_R zr_9_67 (by decide) zm_9 (v := (9, 0)) rfl ?_
                rw [← hQ]; exact ⟨rfl, hIm40, hFm40⟩
  exact lp7_5 _ (0) (f1) m0 hI0 hF0  ef1 (by omega) (by omega) (by omega) (by omega) (Nat.lt_succ_self _)

abbrev W_13 : List (Nat × Nat) := [(45, 1), (45, 6), (45, 7), (45, 8), (48, 1000)]
def rs_13 (E : zE) (d : Nat) : Prop := ∀ (m0 : zM) (a0 : Int) (g0 : Int), (10 * (8 - g0) + (6 - a0)).toNat + 6 ≤ d → zInv m0 → (m0 45 7 = g0) → (0 ≤ a0 ∧ a0 ≤ 5) → zC E d 13 [(2, 45), (0, a0)] m0 (fun v m' => v = (9, 0) ∧ zInv m' ∧ zFr W_13 m0 m' ∧ (m' 45 7 = g0))
abbrev W_14 : List (Nat × Nat) := [(45, 1), (45, 6), (45, 7), (45, 8), (48, 1000)]
def rs_14 (E : zE) (d : Nat) : Prop := ∀ (m0 : zM) (g0 : Int), (10 * (8 - g0)).toNat + 6 ≤ d → zInv m0 → (m0 45 7 = g0) → zC E d 14 [(2, 45)] m0 (fun v m' => v = (9, 0) ∧ zInv m' ∧ zFr W_14 m0 m' ∧ (m' 45 7 = g0))
abbrev W_12 : List (Nat × Nat) := [(45, 1), (45, 6), (45, 7), (45, 8), (48, 1000)]
def rs_12 (E : zE) (d : Nat) : Prop := ∀ (m0 : zM) (g0 : Int) (g1 : Int), (10 * (8 - g0)).toNat + 5 ≤ d → zInv m0 → (m0 45 7 = g0) → (m0 45 6 = g1) → (g1 ≤ 49) → zC E d 12 [(2, 45)] m0 (fun v m' => v = (9, 0) ∧ zInv m' ∧ zFr W_12 m0 m' ∧ (m' 45 7 = g0))
set_option maxHeartbeats 8000000 in
theorem tr_13 {E : zE} {d : Nat} (ih13 : rs_13 E (d - 1)) (ih14 : rs_14 E (d - 1)) (ih12 : rs_12 E (d - 1)) : rs_13 E d := by
  intro m0 a0 g0 hd hI0 hg0 ha0
  have hF0 : zFr W_13 m0 m0 := zFr.rfl
  have bg0 := ib_45_7 hI0
  rw [hg0] at bg0
  generalize hQ : (fun (v : zV) (m' : zM) => v = (9, 0) ∧ zInv m' ∧ zFr W_13 m0 m' ∧ (m' 45 7 = g0)) = Q
  show zW E d 13 0 [(2, 45), (0, a0), (9, 0), (9, 0), (9, 0)] [] m0 Q
  refine zw_3 zr_13_0 rfl ?_
  refine zw_push zr_13_1 ?_
  refine zw_41_0 zr_13_2 ?_ ?_
  · intro h1
    refine zw_7 zr_13_10 rfl ?_
    refine zw_3 zr_13_11 rfl ?_
    refine zw_push zr_13_12 ?_
    refine zw_16 zr_13_13 (by omega) ?_
    refine zw_C zr_13_14 (Or.inl rfl) zm_13 rfl rfl ⟨Nat.le_of_ble_eq_true rfl, Nat.le_of_ble_eq_true rfl, Nat.le_of_ble_eq_true rfl, rfl, by decide⟩ (by omega) (ih13 m0 ((a0 + 1)) (g0) (by omega) hI0 hg0 (by omega)) ?_
    rintro _ m2 ⟨rfl, hIm2, gm2, po0_m2⟩
    have hFm2 : zFr W_13 m0 m2 := hF0.trans gm2 rfl
    show zW E (d) 13 17 [(2, 45), (0, a0), (9, 0), (9, 0), (9, 0)] [] m2 Q
    refine zw_3 zr_13_17 rfl ?_
    refine zw_push zr_13_18 ?_
    refine zw_41_4 zr_13_19 ?_ ?_
    · intro h3
      refine zw_push zr_13_26 ?_
      refine zw_9 (L' := [(2, 45), (0, a0), (0, 50), (9, 0), (9, 0)]) zr_13_28 (Nat.le_of_ble_eq_true rfl) rfl ?_
      refine zw_push zr_13_29 ?_
      refine zw_9 (L' := [(2, 45), (0, a0), (0, 50), (0, 0), (9, 0)]) zr_13_30 (Nat.le_of_ble_eq_true rfl) rfl ?_
      have lp31_6 : ∀ (nlp31_6 : Nat) (i4 : Int) (m5 : zM), zInv m5 → zFr W_13 m0 m5 → m5 45 7 = g0 → 0 ≤ i4 → i4 ≤ 50 → (50 - i4).toNat < nlp31_6 → zW E (d) 13 31 [(2, 45), (0, a0), (0, 50), (0, i4), (9, 0)] [] m5 Q := by
        intro nlp31_6
        induction nlp31_6 with
        | zero =>
          intros
          exact absurd (by assumption : _ < 0) (Nat.not_lt_zero _)
        | succ nlp31_6 ihlp31_6 =>
          intro i4 m5 hIm5 hFm5 km5_45_7 li4 ui4 hmlp31_6
          refine zw_3 zr_13_31 rfl ?_
          refine zw_3 zr_13_32 rfl ?_
          refine zw_41_3 zr_13_33 ?_ ?_
          · intro h8
            refine zw_R zr_13_82 (by decide) zm_13 (v := (9, 0)) rfl ?_
            rw [← hQ]; exact ⟨rfl, hIm5, hFm5, by omega⟩
          · intro h9
            refine zw_7 zr_13_36 rfl ?_
            refine zw_C zr_13_37 (Or.inl rfl) zm_6 rfl rfl ⟨Nat.le_of_ble_eq_true rfl, Nat.le_of_ble_eq_true rfl, Nat.le_of_ble_eq_true rfl, rfl, by decide⟩ (by omega) (th_6 (d := d - 1) (by omega) hIm5    ) ?_
            rintro _ m10 ⟨r11, rfl, hr11a, hr11b, hIm10, gm10, po0_r11⟩
            have hFm10 : zFr W_13 m0 m10 := hFm5.trans gm10 rfl
            have km10_45_7 : m10 45 7 = g0 := (gm10 45 7 rfl).trans km5_45_7
            obtain ⟨f12, ef12⟩ : ∃ v, m10 45 6 = v := ⟨_, rfl⟩
            have bf12 := ib_45_6 hIm10
            rw [ef12] at bf12
            show zW E (d) 13 40 [(2, 45), (0, a0), (0, 50), (0, i4), (9, 0)] [(0, r11)] m10 Q
            refine zw_10 (L' := [(2, 45), (0, a0), (0, 50), (0, i4), (0, r11)]) zr_13_40 (Nat.le_of_ble_eq_true rfl) rfl ?_
            refine zw_4 zr_13_42 rfl ?_
            refine zw_C zr_13_44 (Or.inr rfl) zm_7 rfl rfl ⟨Nat.le_of_ble_eq_true rfl, Nat.le_of_ble_eq_true rfl, Nat.le_of_ble_eq_true rfl, rfl, by decide⟩ (by omega) (P := (fun v m' => zW E (d) 13 47 [(2, 45), (0, a0), (0, 50), (0, i4), (0, r11)] (if v.1 = 9 then [] else v :: []) m' Q)) ?_ (fun _ _ h => h)
            generalize hQ1 : (fun v m' => zW E (d) 13 47 [(2, 45), (0, a0), (0, 50), (0, i4), (0, r11)] (if v.1 = 9 then [] else v :: []) m' Q) = Q1
            show zW E (d - 1) 7 0 [(0, r11)] [] m10 Q1
            refine zw_3 zr_7_0 rfl ?_
            by_cases h13 : r11 = 38
            · refine zw_112 (off := 85) (t := 86) zr_7_1 (by rw [h13]; rfl) rfl ?_
              refine zw_push zr_7_86 ?_
              refine zw_R zr_7_87 (by decide) zm_7 (v := (0, 1)) rfl ?_
              rw [← hQ1]
              show zW E (d) 13 47 [(2, 45), (0, a0), (0, 50), (0, i4), (0, r11)] [(0, 1)] m10 Q
              refine zw_3 zr_13_47 rfl ?_
              refine zw_41_1 zr_13_48 ?_ ?_
              · intro h14
                refine zw_7 zr_13_52 rfl ?_
                refine zw_43 zr_13_53 rfl ?_
                refine zw_46i zr_13_54 ef12 rfl rfl rfl ?_
                refine zw_push zr_13_57 ?_
                refine zw_16 zr_13_58 (by omega) ?_
                refine zw_47 (c := 45) zr_13_59 rfl ⟨rfl, by decide, rfl⟩ ?_
                intro m15 em15
                have hIm15 : zInv m15 := by rw [em15]; exact hIm10.bd (r := 45) (k := 6) (lo := 0) (hi := 50) rfl (by omega) (by decide) (by decide) (by decide)
                have hFm15 : zFr W_13 m0 m15 := by rw [em15]; exact hFm10.up rfl
                have km15_45_7 : m15 45 7 = g0 := by rw [em15, zUp_ne (by omega)]; exact km10_45_7
                have km15_45_6 : m15 45 6 = (f12 + 1) := by rw [em15]; exact zUp_eq _ _ _ _
                clear em15
                refine zw_7 zr_13_62 rfl ?_
                refine zw_3 zr_13_63 rfl ?_
                refine zw_push zr_13_64 ?_
                refine zw_16 zr_13_65 (by omega) ?_
                refine zw_C zr_13_66 (Or.inl rfl) zm_13 rfl rfl ⟨Nat.le_of_ble_eq_true rfl, Nat.le_of_ble_eq_true rfl, Nat.le_of_ble_eq_true rfl, rfl, by decide⟩ (by omega) (ih13 m15 ((a0 + 1)) (g0) (by omega) hIm15 km15_45_7 (by omega)) ?_
                rintro _ m16 ⟨rfl, hIm16, gm16, po0_m16⟩
                have hFm16 : zFr W_13 m0 m16 := hFm15.trans gm16 rfl
                show zW E (d) 13 69 [(2, 45), (0, a0), (0, 50), (0, i4), (0, r11)] [] m16 Q
                refine zw_7 zr_13_69 rfl ?_
                refine zw_4 zr_13_70 rfl ?_
                refine zw_38 zr_13_72 (by omega) ?_
                refine zw_C zr_13_73 (Or.inl rfl) zm_8 rfl rfl ⟨Nat.le_of_ble_eq_true rfl, Nat.le_of_ble_eq_true rfl, Nat.le_of_ble_eq_true rfl, rfl, by decide⟩ (by omega) (P := (fun v m' => zW E (d) 13 76 [(2, 45), (0, a0), (0, 50), (0, i4), (0, r11)] (if v.1 = 9 then [] else v :: []) m' Q)) ?_ (fun _ _ h => h)
                generalize hQ1 : (fun v m' => zW E (d) 13 76 [(2, 45), (0, a0), (0, 50), (0, i4), (0, r11)] (if v.1 = 9 then [] else v :: []) m' Q) = Q1
                show zW E (d - 1) 8 0 [(2, 45), (0, (-r11))] [] m16 Q1
                refine zw_7 zr_8_0 rfl ?_
                obtain ⟨f17, ef17⟩ : ∃ v, m16 45 8 = v := ⟨_, rfl⟩
                have bf17 := ib_45_8 hIm16
                rw [ef17] at bf17
                refine zw_46i zr_8_1 ef17 rfl rfl rfl ?_
                refine zw_push zr_8_4 ?_
                refine zw_41_3 zr_8_6 ?_ ?_
                · intro h18
                  refine zw_R zr_8_29 (by decide) zm_8 (v := (9, 0)) rfl ?_
                  rw [← hQ1]
                  show zW E (d) 13 76 [(2, 45), (0, a0), (0, 50), (0, i4), (0, r11)] [] m16 Q
                  refine zw_15 (c := 1) (L' := [(2, 45), (0, a0), (0, 50), (0, (i4 + 1)), (0, r11)]) zr_13_76 rfl (by decide) (by omega) rfl ?_
                  refine zw_42 zr_13_79 ?_
                  exact zw_less (L := [(2, 45), (0, a0), (0, 50), (0, (i4 + 1)), (9, 0)]) ⟨Or.inr rfl, Or.inr rfl, Or.inr rfl, Or.inr rfl, Or.inl rfl, trivial⟩ (ihlp31_6 ((i4 + 1)) m16 hIm16 hFm16  po0_m16 (by omega) (by omega) (by omega))
                · intro h19
                  refine zw_7 zr_8_9 rfl ?_
                  refine zw_46r (s := 48) zr_8_10 rfl rfl rfl rfl ?_
                  refine zw_7 zr_8_13 rfl ?_
                  refine zw_46i zr_8_14 ef17 rfl rfl rfl ?_
                  refine zw_3 zr_8_17 rfl ?_
                  refine zw_49 (c := 48) (len := 50) zr_8_18 rfl rfl (by omega) (by omega) ?_
                  intro m20 em20
                  have hIm20 : zInv m20 := by rw [em20]; exact hIm16.any (by omega) rfl (by decide) (by decide)
                  have hFm20 : zFr W_13 m0 m20 := by rw [em20]; exact hFm16.any rfl
                  have km20_45_7 : m20 45 7 = g0 := by rw [em20, zUp_ne (by omega)]; exact po0_m16
                  have km20_45_8 : m20 45 8 = f17 := by rw [em20, zUp_ne (by omega)]; exact ef17
                  clear em20
                  refine zw_7 zr_8_19 rfl ?_
                  refine zw_43 zr_8_20 rfl ?_
                  refine zw_46i zr_8_21 km20_45_8 rfl rfl rfl ?_
                  refine zw_push zr_8_24 ?_
                  refine zw_16 zr_8_25 (by omega) ?_
                  refine zw_47 (c := 45) zr_8_26 rfl ⟨rfl, by decide, rfl⟩ ?_
                  intro m21 em21
                  have hIm21 : zInv m21 := by rw [em21]; exact hIm20.bd (r := 45) (k := 8) (lo := 0) (hi := 50) rfl (by omega) (by decide) (by decide) (by decide)
                  have hFm21 : zFr W_13 m0 m21 := by rw [em21]; exact hFm20.up rfl
                  have km21_45_7 : m21 45 7 = g0 := by rw [em21, zUp_ne (by omega)]; exact km20_45_7
                  have km21_45_8 : m21 45 8 = (f17 + 1) := by rw [em21]; exact zUp_eq _ _ _ _
                  clear em21
                  refine zw_R zr_8_29 (by decide) zm_8 (v := (9, 0)) rfl ?_
                  rw [← hQ1]
                  show zW E (d) 13 76 [(2, 45), (0, a0), (0, 50), (0, i4), (0, r11)] [] m21 Q
                  refine zw_15 (c := 1) (L' := [(2, 45), (0, a0), (0, 50), (0, (i4 + 1)), (0, r11)]) zr_13_76 rfl (by decide) (by omega) rfl ?_
                  refine zw_42 zr_13_79 ?_
                  exact zw_less (L := [(2, 45), (0, a0), (0, 50), (0, (i4 + 1)), (9, 0)]) ⟨Or.inr rfl, Or.inr rfl, Or.inr rfl, Or.inr rfl, Or.inl rfl, trivial⟩ (ihlp31_6 ((i4 + 1)) m21 hIm21 hFm21  km21_45_7 (by omega) (by omega) (by omega))
              · intro h22
                refine zw_R zr_13_51 (by decide) zm_13 (v := (9, 0)) rfl ?_
                rw [← hQ]; exact ⟨rfl, hIm10, hFm10, by omega⟩
            by_cases h23 : r11 = 42
            · refine zw_112 (off := 91) (t := 92) zr_7_1 (by rw [h23]; rfl) rfl ?_
              refine zw_push zr_7_92 ?_
              refine zw_R zr_7_93 (by decide) zm_7 (v := (0, 4)) rfl ?_
              rw [← hQ1]
              show zW E (d) 13 47 [(2, 45), (0, a0), (0, 50), (0, i4), (0, r11)] [(0, 4)] m10 Q
              refine zw_3 zr_13_47 rfl ?_
              refine zw_41_1 zr_13_48 ?_ ?_
              · intro h24
                refine zw_7 zr_13_52 rfl ?_
                refine zw_43 zr_13_53 rfl ?_
                refine zw_46i zr_13_54 ef12 rfl rfl rfl ?_
                refine zw_push zr_13_57 ?_
                refine zw_16 zr_13_58 (by omega) ?_
                refine zw_47 (c := 45) zr_13_59 rfl ⟨rfl, by decide, rfl⟩ ?_
                intro m25 em25
                have hIm25 : zInv m25 := by rw [em25]; exact hIm10.bd (r := 45) (k := 6) (lo := 0) (hi := 50) rfl (by omega) (by decide) (by decide) (by decide)
                have hFm25 : zFr W_13 m0 m25 := by rw [em25]; exact hFm10.up rfl
                have km25_45_7 : m25 45 7 = g0 := by rw [em25, zUp_ne (by omega)]; exact km10_45_7
                have km25_45_6 : m25 45 6 = (f12 + 1) := by rw [em25]; exact zUp_eq _ _ _ _
                clear em25
                refine zw_7 zr_13_62 rfl ?_
                refine zw_3 zr_13_63 rfl ?_
                refine zw_push zr_13_64 ?_
                refine zw_16 zr_13_65 (by omega) ?_
                refine zw_C zr_13_66 (Or.inl rfl) zm_13 rfl rfl ⟨Nat.le_of_ble_eq_true rfl, Nat.le_of_ble_eq_true rfl, Nat.le_of_ble_eq_true rfl, rfl, by decide⟩ (by omega) (ih13 m25 ((a0 + 1)) (g0) (by omega) hIm25 km25_45_7 (by omega)) ?_
                rintro _ m26 ⟨rfl, hIm26, gm26, po0_m26⟩
                have hFm26 : zFr W_13 m0 m26 := hFm25.trans gm26 rfl
                show zW E (d) 13 69 [(2, 45), (0, a0), (0, 50), (0, i4), (0, r11)] [] m26 Q
                refine zw_7 zr_13_69 rfl ?_
                refine zw_4 zr_13_70 rfl ?_
                refine zw_38 zr_13_72 (by omega) ?_
                refine zw_C zr_13_73 (Or.inl rfl) zm_8 rfl rfl ⟨Nat.le_of_ble_eq_true rfl, Nat.le_of_ble_eq_true rfl, Nat.le_of_ble_eq_true rfl, rfl, by decide⟩ (by omega) (P := (fun v m' => zW E (d) 13 76 [(2, 45), (0, a0), (0, 50), (0, i4), (0, r11)] (if v.1 = 9 then [] else v :: []) m' Q)) ?_ (fun _ _ h => h)
                generalize hQ1 : (fun v m' => zW E (d) 13 76 [(2, 45), (0, a0), (0, 50), (0, i4), (0, r11)] (if v.1 = 9 then [] else v :: []) m' Q) = Q1
                show zW E (d - 1) 8 0 [(2, 45), (0, (-r11))] [] m26 Q1
                refine zw_7 zr_8_0 rfl ?_
                obtain ⟨f27, ef27⟩ : ∃ v, m26 45 8 = v := ⟨_, rfl⟩
                have bf27 := ib_45_8 hIm26
                rw [ef27] at bf27
                refine zw_46i zr_8_1 ef27 rfl rfl rfl ?_
                refine zw_push zr_8_4 ?_
                refine zw_41_3 zr_8_6 ?_ ?_
                · intro h28
                  refine zw_R zr_8_29 (by decide) zm_8 (v := (9, 0)) rfl ?_
                  rw [← hQ1]
                  show zW E (d) 13 76 [(2, 45), (0, a0), (0, 50), (0, i4), (0, r11)] [] m26 Q
                  refine zw_15 (c := 1) (L' := [(2, 45), (0, a0), (0, 50), (0, (i4 + 1)), (0, r11)]) zr_13_76 rfl (by decide) (by omega) rfl ?_
                  refine zw_42 zr_13_79 ?_
                  exact zw_less (L := [(2, 45), (0, a0), (0, 50), (0, (i4 + 1)), (9, 0)]) ⟨Or.inr rfl, Or.inr rfl, Or.inr rfl, Or.inr rfl, Or.inl rfl, trivial⟩ (ihlp31_6 ((i4 + 1)) m26 hIm26 hFm26  po0_m26 (by omega) (by omega) (by omega))
                · intro h29
                  refine zw_7 zr_8_9 rfl ?_
                  refine zw_46r (s := 48) zr_8_10 rfl rfl rfl rfl ?_
                  refine zw_7 zr_8_13 rfl ?_
                  refine zw_46i zr_8_14 ef27 rfl rfl rfl ?_
                  refine zw_3 zr_8_17 rfl ?_
                  refine zw_49 (c := 48) (len := 50) zr_8_18 rfl rfl (by omega) (by omega) ?_
                  intro m30 em30
                  have hIm30 : zInv m30 := by rw [em30]; exact hIm26.any (by omega) rfl (by decide) (by decide)
                  have hFm30 : zFr W_13 m0 m30 := by rw [em30]; exact hFm26.any rfl
                  have km30_45_7 : m30 45 7 = g0 := by rw [em30, zUp_ne (by omega)]; exact po0_m26
                  have km30_45_8 : m30 45 8 = f27 := by rw [em30, zUp_ne (by omega)]; exact ef27
                  clear em30
                  refine zw_7 zr_8_19 rfl ?_
                  refine zw_43 zr_8_20 rfl ?_
                  refine zw_46i zr_8_21 km30_45_8 rfl rfl rfl ?_
                  refine zw_push zr_8_24 ?_
                  refine zw_16 zr_8_25 (by omega) ?_
                  refine zw_47 (c := 45) zr_8_26 rfl ⟨rfl, by decide, rfl⟩ ?_
                  intro m31 em31
                  have hIm31 : zInv m31 := by rw [em31]; exact hIm30.bd (r := 45) (k := 8) (lo := 0) (hi := 50) rfl (by omega) (by decide) (by decide) (by decide)
                  have hFm31 : zFr W_13 m0 m31 := by rw [em31]; exact hFm30.up rfl
                  have km31_45_7 : m31 45 7 = g0 := by rw [em31, zUp_ne (by omega)]; exact km30_45_7
                  have km31_45_8 : m31 45 8 = (f27 + 1) := by rw [em31]; exact zUp_eq _ _ _ _
                  clear em31
                  refine zw_R zr_8_29 (by decide) zm_8 (v := (9, 0)) rfl ?_
                  rw [← hQ1]
                  show zW E (d) 13 76 [(2, 45), (0, a0), (0, 50), (0, i4), (0, r11)] [] m31 Q
                  refine zw_15 (c := 1) (L' := [(2, 45), (0, a0), (0, 50), (0, (i4 + 1)), (0, r11)]) zr_13_76 rfl (by decide) (by omega) rfl ?_
                  refine zw_42 zr_13_79 ?_
                  exact zw_less (L := [(2, 45), (0, a0), (0, 50), (0, (i4 + 1)), (9, 0)]) ⟨Or.inr rfl, Or.inr rfl, Or.inr rfl, Or.inr rfl, Or.inl rfl, trivial⟩ (ihlp31_6 ((i4 + 1)) m31 hIm31 hFm31  km31_45_7 (by omega) (by omega) (by omega))
              · intro h32
                refine zw_R zr_13_51 (by decide) zm_13 (v := (9, 0)) rfl ?_
                rw [← hQ]; exact ⟨rfl, hIm10, hFm10, by omega⟩
            by_cases h33 : r11 = 43
            · refine zw_112 (off := 89) (t := 90) zr_7_1 (by rw [h33]; rfl) rfl ?_
              refine zw_push zr_7_90 ?_
              refine zw_R zr_7_91 (by decide) zm_7 (v := (0, 3)) rfl ?_
              rw [← hQ1]
              show zW E (d) 13 47 [(2, 45), (0, a0), (0, 50), (0, i4), (0, r11)] [(0, 3)] m10 Q
              refine zw_3 zr_13_47 rfl ?_
              refine zw_41_1 zr_13_48 ?_ ?_
              · intro h34
                refine zw_7 zr_13_52 rfl ?_
                refine zw_43 zr_13_53 rfl ?_
                refine zw_46i zr_13_54 ef12 rfl rfl rfl ?_
                refine zw_push zr_13_57 ?_
                refine zw_16 zr_13_58 (by omega) ?_
                refine zw_47 (c := 45) zr_13_59 rfl ⟨rfl, by decide, rfl⟩ ?_
                intro m35 em35
                have hIm35 : zInv m35 := by rw [em35]; exact hIm10.bd (r := 45) (k := 6) (lo := 0) (hi := 50) rfl (by omega) (by decide) (by decide) (by decide)
                have hFm35 : zFr W_13 m0 m35 := by rw [em35]; exact hFm10.up rfl
                have km35_45_7 : m35 45 7 = g0 := by rw [em35, zUp_ne (by omega)]; exact km10_45_7
                have km35_45_6 : m35 45 6 = (f12 + 1) := by rw [em35]; exact zUp_eq _ _ _ _
                clear em35
                refine zw_7 zr_13_62 rfl ?_
                refine zw_3 zr_13_63 rfl ?_
                refine zw_push zr_13_64 ?_
                refine zw_16 zr_13_65 (by omega) ?_
                refine zw_C zr_13_66 (Or.inl rfl) zm_13 rfl rfl ⟨Nat.le_of_ble_eq_true rfl, Nat.le_of_ble_eq_true rfl, Nat.le_of_ble_eq_true rfl, rfl, by decide⟩ (by omega) (ih13 m35 ((a0 + 1)) (g0) (by omega) hIm35 km35_45_7 (by omega)) ?_
                rintro _ m36 ⟨rfl, hIm36, gm36, po0_m36⟩
                have hFm36 : zFr W_13 m0 m36 := hFm35.trans gm36 rfl
                show zW E (d) 13 69 [(2, 45), (0, a0), (0, 50), (0, i4), (0, r11)] [] m36 Q
                refine zw_7 zr_13_69 rfl ?_
                refine zw_4 zr_13_70 rfl ?_
                refine zw_38 zr_13_72 (by omega) ?_
                refine zw_C zr_13_73 (Or.inl rfl) zm_8 rfl rfl ⟨Nat.le_of_ble_eq_true rfl, Nat.le_of_ble_eq_true rfl, Nat.le_of_ble_eq_true rfl, rfl, by decide⟩ (by omega) (P := (fun v m' => zW E (d) 13 76 [(2, 45), (0, a0), (0, 50), (0, i4), (0, r11)] (if v.1 = 9 then [] else v :: []) m' Q)) ?_ (fun _ _ h => h)
                generalize hQ1 : (fun v m' => zW E (d) 13 76 [(2, 45), (0, a0), (0, 50), (0, i4), (0, r11)] (if v.1 = 9 then [] else v :: []) m' Q) = Q1
                show zW E (d - 1) 8 0 [(2, 45), (0, (-r11))] [] m36 Q1
                refine zw_7 zr_8_0 rfl ?_
                obtain ⟨f37, ef37⟩ : ∃ v, m36 45 8 = v := ⟨_, rfl⟩
                have bf37 := ib_45_8 hIm36
                rw [ef37] at bf37
                refine zw_46i zr_8_1 ef37 rfl rfl rfl ?_
                refine zw_push zr_8_4 ?_
                refine zw_41_3 zr_8_6 ?_ ?_
                · intro h38
                  refine zw_R zr_8_29 (by decide) zm_8 (v := (9, 0)) rfl ?_
                  rw [← hQ1]
                  show zW E (d) 13 76 [(2, 45), (0, a0), (0, 50), (0, i4), (0, r11)] [] m36 Q
                  refine zw_15 (c := 1) (L' := [(2, 45), (0, a0), (0, 50), (0, (i4 + 1)), (0, r11)]) zr_13_76 rfl (by decide) (by omega) rfl ?_
                  refine zw_42 zr_13_79 ?_
                  exact zw_less (L := [(2, 45), (0, a0), (0, 50), (0, (i4 + 1)), (9, 0)]) ⟨Or.inr rfl, Or.inr rfl, Or.inr rfl, Or.inr rfl, Or.inl rfl, trivial⟩ (ihlp31_6 ((i4 + 1)) m36 hIm36 hFm36  po0_m36 (by omega) (by omega) (by omega))
                · intro h39
                  refine zw_7 zr_8_9 rfl ?_
                  refine zw_46r (s := 48) zr_8_10 rfl rfl rfl rfl ?_
                  refine zw_7 zr_8_13 rfl ?_
                  refine zw_46i zr_8_14 ef37 rfl rfl rfl ?_
                  refine zw_3 zr_8_17 rfl ?_
                  refine zw_49 (c := 48) (len := 50) zr_8_18 rfl rfl (by omega) (by omega) ?_
                  intro m40 em40
                  have hIm40 : zInv m40 := by rw [em40]; exact hIm36.any (by omega) rfl (by decide) (by decide)
                  have hFm40 : zFr W_13 m0 m40 := by rw [em40]; exact hFm36.any rfl
                  have km40_45_7 : m40 45 7 = g0 := by rw [em40, zUp_ne (by omega)]; exact po0_m36
                  have km40_45_8 : m40 45 8 = f37 := by rw [em40, zUp_ne (by omega)]; exact ef37
                  clear em40
                  refine zw_7 zr_8_19 rfl ?_
                  refine zw_43 zr_8_20 rfl ?_
                  refine zw_46i zr_8_21 km40_45_8 rfl rfl rfl ?_
                  refine zw_push zr_8_24 ?_
                  refine zw_16 zr_8_25 (by omega) ?_
                  refine zw_47 (c := 45) zr_8_26 rfl ⟨rfl, by decide, rfl⟩ ?_
                  intro m41 em41
                  have hIm41 : zInv m41 := by rw [em41]; exact hIm40.bd (r := 45) (k := 8) (lo := 0) (hi := 50) rfl (by omega) (by decide) (by decide) (by decide)
                  have hFm41 : zFr W_13 m0 m41 := by rw [em41]; exact hFm40.up rfl
                  have km41_45_7 : m41 45 7 = g0 := by rw [em41, zUp_ne (by omega)]; exact km40_45_7
                  have km41_45_8 : m41 45 8 = (f37 + 1) := by rw [em41]; exact zUp_eq _ _ _ _
                  clear em41
                  refine zw_R zr_8_29 (by decide) zm_8 (v := (9, 0)) rfl ?_
                  rw [← hQ1]
                  show zW E (d) 13 76 [(2, 45), (0, a0), (0, 50), (0, i4), (0, r11)] [] m41 Q
                  refine zw_15 (c := 1) (L' := [(2, 45), (0, a0), (0, 50), (0, (i4 + 1)), (0, r11)]) zr_13_76 rfl (by decide) (by omega) rfl ?_
                  refine zw_42 zr_13_79 ?_
                  exact zw_less (L := [(2, 45), (0, a0), (0, 50), (0, (i4 + 1)), (9, 0)]) ⟨Or.inr rfl, Or.inr rfl, Or.inr rfl, Or.inr rfl, Or.inl rfl, trivial⟩ (ihlp31_6 ((i4 + 1)) m41 hIm41 hFm41  km41_45_7 (by omega) (by omega) (by omega))
              · intro h42
                refine zw_R zr_13_51 (by decide) zm_13 (v := (9, 0)) rfl ?_
                rw [← hQ]; exact ⟨rfl, hIm10, hFm10, by omega⟩
            by_cases h43 : r11 = 45
            · refine zw_112 (off := 89) (t := 90) zr_7_1 (by rw [h43]; rfl) rfl ?_
              refine zw_push zr_7_90 ?_
              refine zw_R zr_7_91 (by decide) zm_7 (v := (0, 3)) rfl ?_
              rw [← hQ1]
              show zW E (d) 13 47 [(2, 45), (0, a0), (0, 50), (0, i4), (0, r11)] [(0, 3)] m10 Q
              refine zw_3 zr_13_47 rfl ?_
              refine zw_41_1 zr_13_48 ?_ ?_
              · intro h44
                refine zw_7 zr_13_52 rfl ?_
                refine zw_43 zr_13_53 rfl ?_
                refine zw_46i zr_13_54 ef12 rfl rfl rfl ?_
                refine zw_push zr_13_57 ?_
                refine zw_16 zr_13_58 (by omega) ?_
                refine zw_47 (c := 45) zr_13_59 rfl ⟨rfl, by decide, rfl⟩ ?_
                intro m45 em45
                have hIm45 : zInv m45 := by rw [em45]; exact hIm10.bd (r := 45) (k := 6) (lo := 0) (hi := 50) rfl (by omega) (by decide) (by decide) (by decide)
                have hFm45 : zFr W_13 m0 m45 := by rw [em45]; exact hFm10.up rfl
                have km45_45_7 : m45 45 7 = g0 := by rw [em45, zUp_ne (by omega)]; exact km10_45_7
                have km45_45_6 : m45 45 6 = (f12 + 1) := by rw [em45]; exact zUp_eq _ _ _ _
                clear em45
                refine zw_7 zr_13_62 rfl ?_
                refine zw_3 zr_13_63 rfl ?_
                refine zw_push zr_13_64 ?_
                refine zw_16 zr_13_65 (by omega) ?_
                refine zw_C zr_13_66 (Or.inl rfl) zm_13 rfl rfl ⟨Nat.le_of_ble_eq_true rfl, Nat.le_of_ble_eq_true rfl, Nat.le_of_ble_eq_true rfl, rfl, by decide⟩ (by omega) (ih13 m45 ((a0 + 1)) (g0) (by omega) hIm45 km45_45_7 (by omega)) ?_
                rintro _ m46 ⟨rfl, hIm46, gm46, po0_m46⟩
                have hFm46 : zFr W_13 m0 m46 := hFm45.trans gm46 rfl
                show zW E (d) 13 69 [(2, 45), (0, a0), (0, 50), (0, i4), (0, r11)] [] m46 Q
                refine zw_7 zr_13_69 rfl ?_
                refine zw_4 zr_13_70 rfl ?_
                refine zw_38 zr_13_72 (by omega) ?_
                refine zw_C zr_13_73 (Or.inl rfl) zm_8 rfl rfl ⟨Nat.le_of_ble_eq_true rfl, Nat.le_of_ble_eq_true rfl, Nat.le_of_ble_eq_true rfl, rfl, by decide⟩ (by omega) (P := (fun v m' => zW E (d) 13 76 [(2, 45), (0, a0), (0, 50), (0, i4), (0, r11)] (if v.1 = 9 then [] else v :: []) m' Q)) ?_ (fun _ _ h => h)
                generalize hQ1 : (fun v m' => zW E (d) 13 76 [(2, 45), (0, a0), (0, 50), (0, i4), (0, r11)] (if v.1 = 9 then [] else v :: []) m' Q) = Q1
                show zW E (d - 1) 8 0 [(2, 45), (0, (-r11))] [] m46 Q1
                refine zw_7 zr_8_0 rfl ?_
                obtain ⟨f47, ef47⟩ : ∃ v, m46 45 8 = v := ⟨_, rfl⟩
                have bf47 := ib_45_8 hIm46
                rw [ef47] at bf47
                refine zw_46i zr_8_1 ef47 rfl rfl rfl ?_
                refine zw_push zr_8_4 ?_
                refine zw_41_3 zr_8_6 ?_ ?_
                · intro h48
                  refine zw_R zr_8_29 (by decide) zm_8 (v := (9, 0)) rfl ?_
                  rw [← hQ1]
                  show zW E (d) 13 76 [(2, 45), (0, a0), (0, 50), (0, i4), (0, r11)] [] m46 Q
                  refine zw_15 (c := 1) (L' := [(2, 45), (0, a0), (0, 50), (0, (i4 + 1)), (0, r11)]) zr_13_76 rfl (by decide) (by omega) rfl ?_
                  refine zw_42 zr_13_79 ?_
                  exact zw_less (L := [(2, 45), (0, a0), (0, 50), (0, (i4 + 1)), (9, 0)]) ⟨Or.inr rfl, Or.inr rfl, Or.inr rfl, Or.inr rfl, Or.inl rfl, trivial⟩ (ihlp31_6 ((i4 + 1)) m46 hIm46 hFm46  po0_m46 (by omega) (by omega) (by omega))
                · intro h49
                  refine zw_7 zr_8_9 rfl ?_
                  refine zw_46r (s := 48) zr_8_10 rfl rfl rfl rfl ?_
                  refine zw_7 zr_8_13 rfl ?_
                  refine zw_46i zr_8_14 ef47 rfl rfl rfl ?_
                  refine zw_3 zr_8_17 rfl ?_
                  refine zw_49 (c := 48) (len := 50) zr_8_18 rfl rfl (by omega) (by omega) ?_
                  intro m50 em50
                  have hIm50 : zInv m50 := by rw [em50]; exact hIm46.any (by omega) rfl (by decide) (by decide)
                  have hFm50 : zFr W_13 m0 m50 := by rw [em50]; exact hFm46.any rfl
                  have km50_45_7 : m50 45 7 = g0 := by rw [em50, zUp_ne (by omega)]; exact po0_m46
                  have km50_45_8 : m50 45 8 = f47 := by rw [em50, zUp_ne (by omega)]; exact ef47
                  clear em50
                  refine zw_7 zr_8_19 rfl ?_
                  refine zw_43 zr_8_20 rfl ?_
                  refine zw_46i zr_8_21 km50_45_8 rfl rfl rfl ?_
                  refine zw_push zr_8_24 ?_
                  refine zw_16 zr_8_25 (by omega) ?_
                  refine zw_47 (c := 45) zr_8_26 rfl ⟨rfl, by decide, rfl⟩ ?_
                  intro m51 em51
                  have hIm51 : zInv m51 := by rw [em51]; exact hIm50.bd (r := 45) (k := 8) (lo := 0) (hi := 50) rfl (by omega) (by decide) (by decide) (by decide)
                  have hFm51 : zFr W_13 m0 m51 := by rw [em51]; exact hFm50.up rfl
                  have km51_45_7 : m51 45 7 = g0 := by rw [em51, zUp_ne (by omega)]; exact km50_45_7
                  have km51_45_8 : m51 45 8 = (f47 + 1) := by rw [em51]; exact zUp_eq _ _ _ _
                  clear em51
                  refine zw_R zr_8_29 (by decide) zm_8 (v := (9, 0)) rfl ?_
                  rw [← hQ1]
                  show zW E (d) 13 76 [(2, 45), (0, a0), (0, 50), (0, i4), (0, r11)] [] m51 Q
                  refine zw_15 (c := 1) (L' := [(2, 45), (0, a0), (0, 50), (0, (i4 + 1)), (0, r11)]) zr_13_76 rfl (by decide) (by omega) rfl ?_
                  refine zw_42 zr_13_79 ?_
                  exact zw_less (L := [(2, 45), (0, a0), (0, 50), (0, (i4 + 1)), (9, 0)]) ⟨Or.inr rfl, Or.inr rfl, Or.inr rfl, Or.inr rfl, Or.inl rfl, trivial⟩ (ihlp31_6 ((i4 + 1)) m51 hIm51 hFm51  km51_45_7 (by omega) (by omega) (by omega))
              · intro h52
                refine zw_R zr_13_51 (by decide) zm_13 (v := (9, 0)) rfl ?_
                rw [← hQ]; exact ⟨rfl, hIm10, hFm10, by omega⟩
            by_cases h53 : r11 = 47
            · refine zw_112 (off := 91) (t := 92) zr_7_1 (by rw [h53]; rfl) rfl ?_
              refine zw_push zr_7_92 ?_
              refine zw_R zr_7_93 (by decide) zm_7 (v := (0, 4)) rfl ?_
              rw [← hQ1]
              show zW E (d) 13 47 [(2, 45), (0, a0), (0, 50), (0, i4), (0, r11)] [(0, 4)] m10 Q
              refine zw_3 zr_13_47 rfl ?_
              refine zw_41_1 zr_13_48 ?_ ?_
              · intro h54
                refine zw_7 zr_13_52 rfl ?_
                refine zw_43 zr_13_53 rfl ?_
                refine zw_46i zr_13_54 ef12 rfl rfl rfl ?_
                refine zw_push zr_13_57 ?_
                refine zw_16 zr_13_58 (by omega) ?_
                refine zw_47 (c := 45) zr_13_59 rfl ⟨rfl, by decide, rfl⟩ ?_
                intro m55 em55
                have hIm55 : zInv m55 := by rw [em55]; exact hIm10.bd (r := 45) (k := 6) (lo := 0) (hi := 50) rfl (by omega) (by decide) (by decide) (by decide)
                have hFm55 : zFr W_13 m0 m55 := by rw [em55]; exact hFm10.up rfl
                have km55_45_7 : m55 45 7 = g0 := by rw [em55, zUp_ne (by omega)]; exact km10_45_7
                have km55_45_6 : m55 45 6 = (f12 + 1) := by rw [em55]; exact zUp_eq _ _ _ _
                clear em55
                refine zw_7 zr_13_62 rfl ?_
                refine zw_3 zr_13_63 rfl ?_
                refine zw_push zr_13_64 ?_
                refine zw_16 zr_13_65 (by omega) ?_
                refine zw_C zr_13_66 (Or.inl rfl) zm_13 rfl rfl ⟨Nat.le_of_ble_eq_true rfl, Nat.le_of_ble_eq_true rfl, Nat.le_of_ble_eq_true rfl, rfl, by decide⟩ (by omega) (ih13 m55 ((a0 + 1)) (g0) (by omega) hIm55 km55_45_7 (by omega)) ?_
                rintro _ m56 ⟨rfl, hIm56, gm56, po0_m56⟩
                have hFm56 : zFr W_13 m0 m56 := hFm55.trans gm56 rfl
                show zW E (d) 13 69 [(2, 45), (0, a0), (0, 50), (0, i4), (0, r11)] [] m56 Q
                refine zw_7 zr_13_69 rfl ?_
                refine zw_4 zr_13_70 rfl ?_
                refine zw_38 zr_13_72 (by omega) ?_
                refine zw_C zr_13_73 (Or.inl rfl) zm_8 rfl rfl ⟨Nat.le_of_ble_eq_true rfl, Nat.le_of_ble_eq_true rfl, Nat.le_of_ble_eq_true rfl, rfl, by decide⟩ (by omega) (P := (fun v m' => zW E (d) 13 76 [(2, 45), (0, a0), (0, 50), (0, i4), (0, r11)] (if v.1 = 9 then [] else v :: []) m' Q)) ?_ (fun _ _ h => h)
                generalize hQ1 : (fun v m' => zW E (d) 13 76 [(2, 45), (0, a0), (0, 50), (0, i4), (0, r11)] (if v.1 = 9 then [] else v :: []) m' Q) = Q1
                show zW E (d - 1) 8 0 [(2, 45), (0, (-r11))] [] m56 Q1
                refine zw_7 zr_8_0 rfl ?_
                obtain ⟨f57, ef57⟩ : ∃ v, m56 45 8 = v := ⟨_, rfl⟩
                have bf57 := ib_45_8 hIm56
                rw [ef57] at bf57
                refine zw_46i zr_8_1 ef57 rfl rfl rfl ?_
                refine zw_push zr_8_4 ?_
                refine zw_41_3 zr_8_6 ?_ ?_
                · intro h58
                  refine zw_R zr_8_29 (by decide) zm_8 (v := (9, 0)) rfl ?_
                  rw [← hQ1]
                  show zW E (d) 13 76 [(2, 45), (0, a0), (0, 50), (0, i4), (0, r11)] [] m56 Q
                  refine zw_15 (c := 1) (L' := [(2, 45), (0, a0), (0, 50), (0, (i4 + 1)), (0, r11)]) zr_13_76 rfl (by decide) (by omega) rfl ?_
                  refine zw_42 zr_13_79 ?_
                  exact zw_less (L := [(2, 45), (0, a0), (0, 50), (0, (i4 + 1)), (9, 0)]) ⟨Or.inr rfl, Or.inr rfl, Or.inr rfl, Or.inr rfl, Or.inl rfl, trivial⟩ (ihlp31_6 ((i4 + 1)) m56 hIm56 hFm56  po0_m56 (by omega) (by omega) (by omega))
                · intro h59
                  refine zw_7 zr_8_9 rfl ?_
                  refine zw_46r (s := 48) zr_8_10 rfl rfl rfl rfl ?_
                  refine zw_7 zr_8_13 rfl ?_
                  refine zw_46i zr_8_14 ef57 rfl rfl rfl ?_
                  refine zw_3 zr_8_17 rfl ?_
                  refine zw_49 (c := 48) (len := 50) zr_8_18 rfl rfl (by omega) (by omega) ?_
                  intro m60 em60
                  have hIm60 : zInv m60 := by rw [em60]; exact hIm56.any (by omega) rfl (by decide) (by decide)
                  have hFm60 : zFr W_13 m0 m60 := by rw [em60]; exact hFm56.any rfl
                  have km60_45_7 : m60 45 7 = g0 := by rw [em60, zUp_ne (by omega)]; exact po0_m56
                  have km60_45_8 : m60 45 8 = f57 := by rw [em60, zUp_ne (by omega)]; exact ef57
                  clear em60
                  refine zw_7 zr_8_19 rfl ?_
                  refine zw_43 zr_8_20 rfl ?_
                  refine zw_46i zr_8_21 km60_45_8 rfl rfl rfl ?_
                  refine zw_push zr_8_24 ?_
                  refine zw_16 zr_8_25 (by omega) ?_
                  refine zw_47 (c := 45) zr_8_26 rfl ⟨rfl, by decide, rfl⟩ ?_
                  intro m61 em61
                  have hIm61 : zInv m61 := by rw [em61]; exact hIm60.bd (r := 45) (k := 8) (lo := 0) (hi := 50) rfl (by omega) (by decide) (by decide) (by decide)
                  have hFm61 : zFr W_13 m0 m61 := by rw [em61]; exact hFm60.up rfl
                  have km61_45_7 : m61 45 7 = g0 := by rw [em61, zUp_ne (by omega)]; exact km60_45_7
                  have km61_45_8 : m61 45 8 = (f57 + 1) := by rw [em61]; exact zUp_eq _ _ _ _
                  clear em61
                  refine zw_R zr_8_29 (by decide) zm_8 (v := (9, 0)) rfl ?_
                  rw [← hQ1]
                  show zW E (d) 13 76 [(2, 45), (0, a0), (0, 50), (0, i4), (0, r11)] [] m61 Q
                  refine zw_15 (c := 1) (L' := [(2, 45), (0, a0), (0, 50), (0, (i4 + 1)), (0, r11)]) zr_13_76 rfl (by decide) (by omega) rfl ?_
                  refine zw_42 zr_13_79 ?_
                  exact zw_less (L := [(2, 45), (0, a0), (0, 50), (0, (i4 + 1)), (9, 0)]) ⟨Or.inr rfl, Or.inr rfl, Or.inr rfl, Or.inr rfl, Or.inl rfl, trivial⟩ (ihlp31_6 ((i4 + 1)) m61 hIm61 hFm61  km61_45_7 (by omega) (by omega) (by omega))
              · intro h62
                refine zw_R zr_13_51 (by decide) zm_13 (v := (9, 0)) rfl ?_
                rw [← hQ]; exact ⟨rfl, hIm10, hFm10, by omega⟩
            by_cases h63 : r11 = 60
            · refine zw_112 (off := 87) (t := 88) zr_7_1 (by rw [h63]; rfl) rfl ?_
              refine zw_push zr_7_88 ?_
              refine zw_R zr_7_89 (by decide) zm_7 (v := (0, 2)) rfl ?_
              rw [← hQ1]
              show zW E (d) 13 47 [(2, 45), (0, a0), (0, 50), (0, i4), (0, r11)] [(0, 2)] m10 Q
              refine zw_3 zr_13_47 rfl ?_
              refine zw_41_1 zr_13_48 ?_ ?_
              · intro h64
                refine zw_7 zr_13_52 rfl ?_
                refine zw_43 zr_13_53 rfl ?_
                refine zw_46i zr_13_54 ef12 rfl rfl rfl ?_
                refine zw_push zr_13_57 ?_
                refine zw_16 zr_13_58 (by omega) ?_
                refine zw_47 (c := 45) zr_13_59 rfl ⟨rfl, by decide, rfl⟩ ?_
                intro m65 em65
                have hIm65 : zInv m65 := by rw [em65]; exact hIm10.bd (r := 45) (k := 6) (lo := 0) (hi := 50) rfl (by omega) (by decide) (by decide) (by decide)
                have hFm65 : zFr W_13 m0 m65 := by rw [em65]; exact hFm10.up rfl
                have km65_45_7 : m65 45 7 = g0 := by rw [em65, zUp_ne (by omega)]; exact km10_45_7
                have km65_45_6 : m65 45 6 = (f12 + 1) := by rw [em65]; exact zUp_eq _ _ _ _
                clear em65
                refine zw_7 zr_13_62 rfl ?_
                refine zw_3 zr_13_63 rfl ?_
                refine zw_push zr_13_64 ?_
                refine zw_16 zr_13_65 (by omega) ?_
                refine zw_C zr_13_66 (Or.inl rfl) zm_13 rfl rfl ⟨Nat.le_of_ble_eq_true rfl, Nat.le_of_ble_eq_true rfl, Nat.le_of_ble_eq_true rfl, rfl, by decide⟩ (by omega) (ih13 m65 ((a0 + 1)) (g0) (by omega) hIm65 km65_45_7 (by omega)) ?_
                rintro _ m66 ⟨rfl, hIm66, gm66, po0_m66⟩
                have hFm66 : zFr W_13 m0 m66 := hFm65.trans gm66 rfl
                show zW E (d) 13 69 [(2, 45), (0, a0), (0, 50), (0, i4), (0, r11)] [] m66 Q
                refine zw_7 zr_13_69 rfl ?_
                refine zw_4 zr_13_70 rfl ?_
                refine zw_38 zr_13_72 (by omega) ?_
                refine zw_C zr_13_73 (Or.inl rfl) zm_8 rfl rfl ⟨Nat.le_of_ble_eq_true rfl, Nat.le_of_ble_eq_true rfl, Nat.le_of_ble_eq_true rfl, rfl, by decide⟩ (by omega) (P := (fun v m' => zW E (d) 13 76 [(2, 45), (0, a0), (0, 50), (0, i4), (0, r11)] (if v.1 = 9 then [] else v :: []) m' Q)) ?_ (fun _ _ h => h)
                generalize hQ1 : (fun v m' => zW E (d) 13 76 [(2, 45), (0, a0), (0, 50), (0, i4), (0, r11)] (if v.1 = 9 then [] else v :: []) m' Q) = Q1
                show zW E (d - 1) 8 0 [(2, 45), (0, (-r11))] [] m66 Q1
                refine zw_7 zr_8_0 rfl ?_
                obtain ⟨f67, ef67⟩ : ∃ v, m66 45 8 = v := ⟨_, rfl⟩
                have bf67 := ib_45_8 hIm66
                rw [ef67] at bf67
                refine zw_46i zr_8_1 ef67 rfl rfl rfl ?_
                refine zw_push zr_8_4 ?_
                refine zw_41_3 zr_8_6 ?_ ?_
                · intro h68
                  refine zw_R zr_8_29 (by decide) zm_8 (v := (9, 0)) rfl ?_
                  rw [← hQ1]
                  show zW E (d) 13 76 [(2, 45), (0, a0), (0, 50), (0, i4), (0, r11)] [] m66 Q
                  refine zw_15 (c := 1) (L' := [(2, 45), (0, a0), (0, 50), (0, (i4 + 1)), (0, r11)]) zr_13_76 rfl (by decide) (by omega) rfl ?_
                  refine zw_42 zr_13_79 ?_
                  exact zw_less (L := [(2, 45), (0, a0), (0, 50), (0, (i4 + 1)), (9, 0)]) ⟨Or.inr rfl, Or.inr rfl, Or.inr rfl, Or.inr rfl, Or.inl rfl, trivial⟩ (ihlp31_6 ((i4 + 1)) m66 hIm66 hFm66  po0_m66 (by omega) (by omega) (by omega))
                · intro h69
                  refine zw_7 zr_8_9 rfl ?_
                  refine zw_46r (s := 48) zr_8_10 rfl rfl rfl rfl ?_
                  refine zw_7 zr_8_13 rfl ?_
                  refine zw_46i zr_8_14 ef67 rfl rfl rfl ?_
                  refine zw_3 zr_8_17 rfl ?_
                  refine zw_49 (c := 48) (len := 50) zr_8_18 rfl rfl (by omega) (by omega) ?_
                  intro m70 em70
                  have hIm70 : zInv m70 := by rw [em70]; exact hIm66.any (by omega) rfl (by decide) (by decide)
                  have hFm70 : zFr W_13 m0 m70 := by rw [em70]; exact hFm66.any rfl
                  have km70_45_7 : m70 45 7 = g0 := by rw [em70, zUp_ne (by omega)]; exact po0_m66
                  have km70_45_8 : m70 45 8 = f67 := by rw [em70, zUp_ne (by omega)]; exact ef67
                  clear em70
                  refine zw_7 zr_8_19 rfl ?_
                  refine zw_43 zr_8_20 rfl ?_
                  refine zw_46i zr_8_21 km70_45_8 rfl rfl rfl ?_
                  refine zw_push zr_8_24 ?_
                  refine zw_16 zr_8_25 (by omega) ?_
                  refine zw_47 (c := 45) zr_8_26 rfl ⟨rfl, by decide, rfl⟩ ?_
                  intro m71 em71
                  have hIm71 : zInv m71 := by rw [em71]; exact hIm70.bd (r := 45) (k := 8) (lo := 0) (hi := 50) rfl (by omega) (by decide) (by decide) (by decide)
                  have hFm71 : zFr W_13 m0 m71 := by rw [em71]; exact hFm70.up rfl
                  have km71_45_7 : m71 45 7 = g0 := by rw [em71, zUp_ne (by omega)]; exact km70_45_7
                  have km71_45_8 : m71 45 8 = (f67 + 1) := by rw [em71]; exact zUp_eq _ _ _ _
                  clear em71
                  refine zw_R zr_8_29 (by decide) zm_8 (v := (9, 0)) rfl ?_
                  rw [← hQ1]
                  show zW E (d) 13 76 [(2, 45), (0, a0), (0, 50), (0, i4), (0, r11)] [] m71 Q
                  refine zw_15 (c := 1) (L' := [(2, 45), (0, a0), (0, 50), (0, (i4 + 1)), (0, r11)]) zr_13_76 rfl (by decide) (by omega) rfl ?_
                  refine zw_42 zr_13_79 ?_
                  exact zw_less (L := [(2, 45), (0, a0), (0, 50), (0, (i4 + 1)), (9, 0)]) ⟨Or.inr rfl, Or.inr rfl, Or.inr rfl, Or.inr rfl, Or.inl rfl, trivial⟩ (ihlp31_6 ((i4 + 1)) m71 hIm71 hFm71  km71_45_7 (by omega) (by omega) (by omega))
              · intro h72
                refine zw_R zr_13_51 (by decide) zm_13 (v := (9, 0)) rfl ?_
                rw [← hQ]; exact ⟨rfl, hIm10, hFm10, by omega⟩
            by_cases h73 : r11 = 61
            · refine zw_112 (off := 87) (t := 88) zr_7_1 (by rw [h73]; rfl) rfl ?_
              refine zw_push zr_7_88 ?_
              refine zw_R zr_7_89 (by decide) zm_7 (v := (0, 2)) rfl ?_
              rw [← hQ1]
              show zW E (d) 13 47 [(2, 45), (0, a0), (0, 50), (0, i4), (0, r11)] [(0, 2)] m10 Q
              refine zw_3 zr_13_47 rfl ?_
              refine zw_41_1 zr_13_48 ?_ ?_
              · intro h74
                refine zw_7 zr_13_52 rfl ?_
                refine zw_43 zr_13_53 rfl ?_
                refine zw_46i zr_13_54 ef12 rfl rfl rfl ?_
                refine zw_push zr_13_57 ?_
                refine zw_16 zr_13_58 (by omega) ?_
                refine zw_47 (c := 45) zr_13_59 rfl ⟨rfl, by decide, rfl⟩ ?_
                intro m75 em75
                have hIm75 : zInv m75 := by rw [em75]; exact hIm10.bd (r := 45) (k := 6) (lo := 0) (hi := 50) rfl (by omega) (by decide) (by decide) (by decide)
                have hFm75 : zFr W_13 m0 m75 := by rw [em75]; exact hFm10.up rfl
                have km75_45_7 : m75 45 7 = g0 := by rw [em75, zUp_ne (by omega)]; exact km10_45_7
                have km75_45_6 : m75 45 6 = (f12 + 1) := by rw [em75]; exact zUp_eq _ _ _ _
                clear em75
                refine zw_7 zr_13_62 rfl ?_
                refine zw_3 zr_13_63 rfl ?_
                refine zw_push zr_13_64 ?_
                refine zw_16 zr_13_65 (by omega) ?_
                refine zw_C zr_13_66 (Or.inl rfl) zm_13 rfl rfl ⟨Nat.le_of_ble_eq_true rfl, Nat.le_of_ble_eq_true rfl, Nat.le_of_ble_eq_true rfl, rfl, by decide⟩ (by omega) (ih13 m75 ((a0 + 1)) (g0) (by omega) hIm75 km75_45_7 (by omega)) ?_
                rintro _ m76 ⟨rfl, hIm76, gm76, po0_m76⟩
                have hFm76 : zFr W_13 m0 m76 := hFm75.trans gm76 rfl
                show zW E (d) 13 69 [(2, 45), (0, a0), (0, 50), (0, i4), (0, r11)] [] m76 Q
                refine zw_7 zr_13_69 rfl ?_
                refine zw_4 zr_13_70 rfl ?_
                refine zw_38 zr_13_72 (by omega) ?_
                refine zw_C zr_13_73 (Or.inl rfl) zm_8 rfl rfl ⟨Nat.le_of_ble_eq_true rfl, Nat.le_of_ble_eq_true rfl, Nat.le_of_ble_eq_true rfl, rfl, by decide⟩ (by omega) (P := (fun v m' => zW E (d) 13 76 [(2, 45), (0, a0), (0, 50), (0, i4), (0, r11)] (if v.1 = 9 then [] else v :: []) m' Q)) ?_ (fun _ _ h => h)
                generalize hQ1 : (fun v m' => zW E (d) 13 76 [(2, 45), (0, a0), (0, 50), (0, i4), (0, r11)] (if v.1 = 9 then [] else v :: []) m' Q) = Q1
                show zW E (d - 1) 8 0 [(2, 45), (0, (-r11))] [] m76 Q1
                refine zw_7 zr_8_0 rfl ?_
                obtain ⟨f77, ef77⟩ : ∃ v, m76 45 8 = v := ⟨_, rfl⟩
                have bf77 := ib_45_8 hIm76
                rw [ef77] at bf77
                refine zw_46i zr_8_1 ef77 rfl rfl rfl ?_
                refine zw_push zr_8_4 ?_
                refine zw_41_3 zr_8_6 ?_ ?_
                · intro h78
                  refine zw_R zr_8_29 (by decide) zm_8 (v := (9, 0)) rfl ?_
                  rw [← hQ1]
                  show zW E (d) 13 76 [(2, 45), (0, a0), (0, 50), (0, i4), (0, r11)] [] m76 Q
                  refine zw_15 (c := 1) (L' := [(2, 45), (0, a0), (0, 50), (0, (i4 + 1)), (0, r11)]) zr_13_76 rfl (by decide) (by omega) rfl ?_
                  refine zw_42 zr_13_79 ?_
                  exact zw_less (L := [(2, 45), (0, a0), (0, 50), (0, (i4 + 1)), (9, 0)]) ⟨Or.inr rfl, Or.inr rfl, Or.inr rfl, Or.inr rfl, Or.inl rfl, trivial⟩ (ihlp31_6 ((i4 + 1)) m76 hIm76 hFm76  po0_m76 (by omega) (by omega) (by omega))
                · intro h79
                  refine zw_7 zr_8_9 rfl ?_
                  refine zw_46r (s := 48) zr_8_10 rfl rfl rfl rfl ?_
                  refine zw_7 zr_8_13 rfl ?_
                  refine zw_46i zr_8_14 ef77 rfl rfl rfl ?_
                  refine zw_3 zr_8_17 rfl ?_
                  refine zw_49 (c := 48) (len := 50) zr_8_18 rfl rfl (by omega) (by omega) ?_
                  intro m80 em80
                  have hIm80 : zInv m80 := by rw [em80]; exact hIm76.any (by omega) rfl (by decide) (by decide)
                  have hFm80 : zFr W_13 m0 m80 := by rw [em80]; exact hFm76.any rfl
                  have km80_45_7 : m80 45 7 = g0 := by rw [em80, zUp_ne (by omega)]; exact po0_m76
                  have km80_45_8 : m80 45 8 = f77 := by rw [em80, zUp_ne (by omega)]; exact ef77
                  clear em80
                  refine zw_7 zr_8_19 rfl ?_
                  refine zw_43 zr_8_20 rfl ?_
                  refine zw_46i zr_8_21 km80_45_8 rfl rfl rfl ?_
                  refine zw_push zr_8_24 ?_
                  refine zw_16 zr_8_25 (by omega) ?_
                  refine zw_47 (c := 45) zr_8_26 rfl ⟨rfl, by decide, rfl⟩ ?_
                  intro m81 em81
                  have hIm81 : zInv m81 := by rw [em81]; exact hIm80.bd (r := 45) (k := 8) (lo := 0) (hi := 50) rfl (by omega) (by decide) (by decide) (by decide)
                  have hFm81 : zFr W_13 m0 m81 := by rw [em81]; exact hFm80.up rfl
                  have km81_45_7 : m81 45 7 = g0 := by rw [em81, zUp_ne (by omega)]; exact km80_45_7
                  have km81_45_8 : m81 45 8 = (f77 + 1) := by rw [em81]; exact zUp_eq _ _ _ _
                  clear em81
                  refine zw_R zr_8_29 (by decide) zm_8 (v := (9, 0)) rfl ?_
                  rw [← hQ1]
                  show zW E (d) 13 76 [(2, 45), (0, a0), (0, 50), (0, i4), (0, r11)] [] m81 Q
                  refine zw_15 (c := 1) (L' := [(2, 45), (0, a0), (0, 50), (0, (i4 + 1)), (0, r11)]) zr_13_76 rfl (by decide) (by omega) rfl ?_
                  refine zw_42 zr_13_79 ?_
                  exact zw_less (L := [(2, 45), (0, a0), (0, 50), (0, (i4 + 1)), (9, 0)]) ⟨Or.inr rfl, Or.inr rfl, Or.inr rfl, Or.inr rfl, Or.inl rfl, trivial⟩ (ihlp31_6 ((i4 + 1)) m81 hIm81 hFm81  km81_45_7 (by omega) (by omega) (by omega))
              · intro h82
                refine zw_R zr_13_51 (by decide) zm_13 (v := (9, 0)) rfl ?_
                rw [← hQ]; exact ⟨rfl, hIm10, hFm10, by omega⟩
            by_cases h83 : r11 = 62
            · refine zw_112 (off := 87) (t := 88) zr_7_1 (by rw [h83]; rfl) rfl ?_
              refine zw_push zr_7_88 ?_
              refine zw_R zr_7_89 (by decide) zm_7 (v := (0, 2)) rfl ?_
              rw [← hQ1]
              show zW E (d) 13 47 [(2, 45), (0, a0), (0, 50), (0, i4), (0, r11)] [(0, 2)] m10 Q
              refine zw_3 zr_13_47 rfl ?_
              refine zw_41_1 zr_13_48 ?_ ?_
              · intro h84
                refine zw_7 zr_13_52 rfl ?_
                refine zw_43 zr_13_53 rfl ?_
                refine zw_46i zr_13_54 ef12 rfl rfl rfl ?_
                refine zw_push zr_13_57 ?_
                refine zw_16 zr_13_58 (by omega) ?_
                refine zw_47 (c := 45) zr_13_59 rfl ⟨rfl, by decide, rfl⟩ ?_
                intro m85 em85
                have hIm85 : zInv m85 := by rw [em85]; exact hIm10.bd (r := 45) (k := 6) (lo := 0) (hi := 50) rfl (by omega) (by decide) (by decide) (by decide)
                have hFm85 : zFr W_13 m0 m85 := by rw [em85]; exact hFm10.up rfl
                have km85_45_7 : m85 45 7 = g0 := by rw [em85, zUp_ne (by omega)]; exact km10_45_7
                have km85_45_6 : m85 45 6 = (f12 + 1) := by rw [em85]; exact zUp_eq _ _ _ _
                clear em85
                refine zw_7 zr_13_62 rfl ?_
                refine zw_3 zr_13_63 rfl ?_
                refine zw_push zr_13_64 ?_
                refine zw_16 zr_13_65 (by omega) ?_
                refine zw_C zr_13_66 (Or.inl rfl) zm_13 rfl rfl ⟨Nat.le_of_ble_eq_true rfl, Nat.le_of_ble_eq_true rfl, Nat.le_of_ble_eq_true rfl, rfl, by decide⟩ (by omega) (ih13 m85 ((a0 + 1)) (g0) (by omega) hIm85 km85_45_7 (by omega)) ?_
                rintro _ m86 ⟨rfl, hIm86, gm86, po0_m86⟩
                have hFm86 : zFr W_13 m0 m86 := hFm85.trans gm86 rfl
                show zW E (d) 13 69 [(2, 45), (0, a0), (0, 50), (0, i4), (0, r11)] [] m86 Q
                refine zw_7 zr_13_69 rfl ?_
                refine zw_4 zr_13_70 rfl ?_
                refine zw_38 zr_13_72 (by omega) ?_
                refine zw_C zr_13_73 (Or.inl rfl) zm_8 rfl rfl ⟨Nat.le_of_ble_eq_true rfl, Nat.le_of_ble_eq_true rfl, Nat.le_of_ble_eq_true rfl, rfl, by decide⟩ (by omega) (P := (fun v m' => zW E (d) 13 76 [(2, 45), (0, a0), (0, 50), (0, i4), (0, r11)] (if v.1 = 9 then [] else v :: []) m' Q)) ?_ (fun _ _ h => h)
                generalize hQ1 : (fun v m' => zW E (d) 13 76 [(2, 45), (0, a0), (0, 50), (0, i4), (0, r11)] (if v.1 = 9 then [] else v :: []) m' Q) = Q1
                show zW E (d - 1) 8 0 [(2, 45), (0, (-r11))] [] m86 Q1
                refine zw_7 zr_8_0 rfl ?_
                obtain ⟨f87, ef87⟩ : ∃ v, m86 45 8 = v := ⟨_, rfl⟩
                have bf87 := ib_45_8 hIm86
                rw [ef87] at bf87
                refine zw_46i zr_8_1 ef87 rfl rfl rfl ?_
                refine zw_push zr_8_4 ?_
                refine zw_41_3 zr_8_6 ?_ ?_
                · intro h88
                  refine zw_R zr_8_29 (by decide) zm_8 (v := (9, 0)) rfl ?_
                  rw [← hQ1]
                  show zW E (d) 13 76 [(2, 45), (0, a0), (0, 50), (0, i4), (0, r11)] [] m86 Q
                  refine zw_15 (c := 1) (L' := [(2, 45), (0, a0), (0, 50), (0, (i4 + 1)), (0, r11)]) zr_13_76 rfl (by decide) (by omega) rfl ?_
                  refine zw_42 zr_13_79 ?_
                  exact zw_less (L := [(2, 45), (0, a0), (0, 50), (0, (i4 + 1)), (9, 0)]) ⟨Or.inr rfl, Or.inr rfl, Or.inr rfl, Or.inr rfl, Or.inl rfl, trivial⟩ (ihlp31_6 ((i4 + 1)) m86 hIm86 hFm86  po0_m86 (by omega) (by omega) (by omega))
                · intro h89
                  refine zw_7 zr_8_9 rfl ?_
                  refine zw_46r (s := 48) zr_8_10 rfl rfl rfl rfl ?_
                  refine zw_7 zr_8_13 rfl ?_
                  refine zw_46i zr_8_14 ef87 rfl rfl rfl ?_
                  refine zw_3 zr_8_17 rfl ?_
                  refine zw_49 (c := 48) (len := 50) zr_8_18 rfl rfl (by omega) (by omega) ?_
                  intro m90 em90
                  have hIm90 : zInv m90 := by rw [em90]; exact hIm86.any (by omega) rfl (by decide) (by decide)
                  have hFm90 : zFr W_13 m0 m90 := by rw [em90]; exact hFm86.any rfl
                  have km90_45_7 : m90 45 7 = g0 := by rw [em90, zUp_ne (by omega)]; exact po0_m86
                  have km90_45_8 : m90 45 8 = f87 := by rw [em90, zUp_ne (by omega)]; exact ef87
                  clear em90
                  refine zw_7 zr_8_19 rfl ?_
                  refine zw_43 zr_8_20 rfl ?_
                  refine zw_46i zr_8_21 km90_45_8 rfl rfl rfl ?_
                  refine zw_push zr_8_24 ?_
                  refine zw_16 zr_8_25 (by omega) ?_
                  refine zw_47 (c := 45) zr_8_26 rfl ⟨rfl, by decide, rfl⟩ ?_
                  intro m91 em91
                  have hIm91 : zInv m91 := by rw [em91]; exact hIm90.bd (r := 45) (k := 8) (lo := 0) (hi := 50) rfl (by omega) (by decide) (by decide) (by decide)
                  have hFm91 : zFr W_13 m0 m91 := by rw [em91]; exact hFm90.up rfl
                  have km91_45_7 : m91 45 7 = g0 := by rw [em91, zUp_ne (by omega)]; exact km90_45_7
                  have km91_45_8 : m91 45 8 = (f87 + 1) := by rw [em91]; exact zUp_eq _ _ _ _
                  clear em91
                  refine zw_R zr_8_29 (by decide) zm_8 (v := (9, 0)) rfl ?_
                  rw [← hQ1]
                  show zW E (d) 13 76 [(2, 45), (0, a0), (0, 50), (0, i4), (0, r11)] [] m91 Q
                  refine zw_15 (c := 1) (L' := [(2, 45), (0, a0), (0, 50), (0, (i4 + 1)), (0, r11)]) zr_13_76 rfl (by decide) (by omega) rfl ?_
                  refine zw_42 zr_13_79 ?_
                  exact zw_less (L := [(2, 45), (0, a0), (0, 50), (0, (i4 + 1)), (9, 0)]) ⟨Or.inr rfl, Or.inr rfl, Or.inr rfl, Or.inr rfl, Or.inl rfl, trivial⟩ (ihlp31_6 ((i4 + 1)) m91 hIm91 hFm91  km91_45_7 (by omega) (by omega) (by omega))
              · intro h92
                refine zw_R zr_13_51 (by decide) zm_13 (v := (9, 0)) rfl ?_
                rw [← hQ]; exact ⟨rfl, hIm10, hFm10, by omega⟩
            by_cases h93 : r11 = 124
            · refine zw_112 (off := 83) (t := 84) zr_7_1 (by rw [h93]; rfl) rfl ?_
              refine zw_push zr_7_84 ?_
              refine zw_R zr_7_85 (by decide) zm_7 (v := (0, 0)) rfl ?_
              rw [← hQ1]
              show zW E (d) 13 47 [(2, 45), (0, a0), (0, 50), (0, i4), (0, r11)] [(0, 0)] m10 Q
              refine zw_3 zr_13_47 rfl ?_
              refine zw_41_1 zr_13_48 ?_ ?_
              · intro h94
                refine zw_7 zr_13_52 rfl ?_
                refine zw_43 zr_13_53 rfl ?_
                refine zw_46i zr_13_54 ef12 rfl rfl rfl ?_
                refine zw_push zr_13_57 ?_
                refine zw_16 zr_13_58 (by omega) ?_
                refine zw_47 (c := 45) zr_13_59 rfl ⟨rfl, by decide, rfl⟩ ?_
                intro m95 em95
                have hIm95 : zInv m95 := by rw [em95]; exact hIm10.bd (r := 45) (k := 6) (lo := 0) (hi := 50) rfl (by omega) (by decide) (by decide) (by decide)
                have hFm95 : zFr W_13 m0 m95 := by rw [em95]; exact hFm10.up rfl
                have km95_45_7 : m95 45 7 = g0 := by rw [em95, zUp_ne (by omega)]; exact km10_45_7
                have km95_45_6 : m95 45 6 = (f12 + 1) := by rw [em95]; exact zUp_eq _ _ _ _
                clear em95
                refine zw_7 zr_13_62 rfl ?_
                refine zw_3 zr_13_63 rfl ?_
                refine zw_push zr_13_64 ?_
                refine zw_16 zr_13_65 (by omega) ?_
                refine zw_C zr_13_66 (Or.inl rfl) zm_13 rfl rfl ⟨Nat.le_of_ble_eq_true rfl, Nat.le_of_ble_eq_true rfl, Nat.le_of_ble_eq_true rfl, rfl, by decide⟩ (by omega) (ih13 m95 ((a0 + 1)) (g0) (by omega) hIm95 km95_45_7 (by omega)) ?_
                rintro _ m96 ⟨rfl, hIm96, gm96, po0_m96⟩
                have hFm96 : zFr W_13 m0 m96 := hFm95.trans gm96 rfl
                show zW E (d) 13 69 [(2, 45), (0, a0), (0, 50), (0, i4), (0, r11)] [] m96 Q
                refine zw_7 zr_13_69 rfl ?_
                refine zw_4 zr_13_70 rfl ?_
                refine zw_38 zr_13_72 (by omega) ?_
                refine zw_C zr_13_73 (Or.inl rfl) zm_8 rfl rfl ⟨Nat.le_of_ble_eq_true rfl, Nat.le_of_ble_eq_true rfl, Nat.le_of_ble_eq_true rfl, rfl, by decide⟩ (by omega) (P := (fun v m' => zW E (d) 13 76 [(2, 45), (0, a0), (0, 50), (0, i4), (0, r11)] (if v.1 = 9 then [] else v :: []) m' Q)) ?_ (fun _ _ h => h)
                generalize hQ1 : (fun v m' => zW E (d) 13 76 [(2, 45), (0, a0), (0, 50), (0, i4), (0, r11)] (if v.1 = 9 then [] else v :: []) m' Q) = Q1
                show zW E (d - 1) 8 0 [(2, 45), (0, (-r11))] [] m96 Q1
                refine zw_7 zr_8_0 rfl ?_
                obtain ⟨f97, ef97⟩ : ∃ v, m96 45 8 = v := ⟨_, rfl⟩
                have bf97 := ib_45_8 hIm96
                rw [ef97] at bf97
                refine zw_46i zr_8_1 ef97 rfl rfl rfl ?_
                refine zw_push zr_8_4 ?_
                refine zw_41_3 zr_8_6 ?_ ?_
                · intro h98
                  refine zw_R zr_8_29 (by decide) zm_8 (v := (9, 0)) rfl ?_
                  rw [← hQ1]
                  show zW E (d) 13 76 [(2, 45), (0, a0), (0, 50), (0, i4), (0, r11)] [] m96 Q
                  refine zw_15 (c := 1) (L' := [(2, 45), (0, a0), (0, 50), (0, (i4 + 1)), (0, r11)]) zr_13_76 rfl (by decide) (by omega) rfl ?_
                  refine zw_42 zr_13_79 ?_
                  exact zw_less (L := [(2, 45), (0, a0), (0, 50), (0, (i4 + 1)), (9, 0)]) ⟨Or.inr rfl, Or.inr rfl, Or.inr rfl, Or.inr rfl, Or.inl rfl, trivial⟩ (ihlp31_6 ((i4 + 1)) m96 hIm96 hFm96  po0_m96 (by omega) (by omega) (by omega))
                · intro h99
                  refine zw_7 zr_8_9 rfl ?_
                  refine zw_46r (s := 48) zr_8_10 rfl rfl rfl rfl ?_
                  refine zw_7 zr_8_13 rfl ?_
                  refine zw_46i zr_8_14 ef97 rfl rfl rfl ?_
                  refine zw_3 zr_8_17 rfl ?_
                  refine zw_49 (c := 48) (len := 50) zr_8_18 rfl rfl (by omega) (by omega) ?_
                  intro m100 em100
                  have hIm100 : zInv m100 := by rw [em100]; exact hIm96.any (by omega) rfl (by decide) (by decide)
                  have hFm100 : zFr W_13 m0 m100 := by rw [em100]; exact hFm96.any rfl
                  have km100_45_7 : m100 45 7 = g0 := by rw [em100, zUp_ne (by omega)]; exact po0_m96
                  have km100_45_8 : m100 45 8 = f97 := by rw [em100, zUp_ne (by omega)]; exact ef97
                  clear em100
                  refine zw_7 zr_8_19 rfl ?_
                  refine zw_43 zr_8_20 rfl ?_
                  refine zw_46i zr_8_21 km100_45_8 rfl rfl rfl ?_
                  refine zw_push zr_8_24 ?_
                  refine zw_16 zr_8_25 (by omega) ?_
                  refine zw_47 (c := 45) zr_8_26 rfl ⟨rfl, by decide, rfl⟩ ?_
                  intro m101 em101
                  have hIm101 : zInv m101 := by rw [em101]; exact hIm100.bd (r := 45) (k := 8) (lo := 0) (hi := 50) rfl (by omega) (by decide) (by decide) (by decide)
                  have hFm101 : zFr W_13 m0 m101 := by rw [em101]; exact hFm100.up rfl
                  have km101_45_7 : m101 45 7 = g0 := by rw [em101, zUp_ne (by omega)]; exact km100_45_7
                  have km101_45_8 : m101 45 8 = (f97 + 1) := by rw [em101]; exact zUp_eq _ _ _ _
                  clear em101
                  refine zw_R zr_8_29 (by decide) zm_8 (v := (9, 0)) rfl ?_
                  rw [← hQ1]
                  show zW E (d) 13 76 [(2, 45), (0, a0), (0, 50), (0, i4), (0, r11)] [] m101 Q
                  refine zw_15 (c := 1) (L' := [(2, 45), (0, a0), (0, 50), (0, (i4 + 1)), (0, r11)]) zr_13_76 rfl (by decide) (by omega) rfl ?_
                  refine zw_42 zr_13_79 ?_
                  exact zw_less (L := [(2, 45), (0, a0), (0, 50), (0, (i4 + 1)), (9, 0)]) ⟨Or.inr rfl, Or.inr rfl, Or.inr rfl, Or.inr rfl, Or.inl rfl, trivial⟩ (ihlp31_6 ((i4 + 1)) m101 hIm101 hFm101  km101_45_7 (by omega) (by omega) (by omega))
              · intro h102
                refine zw_R zr_13_51 (by decide) zm_13 (v := (9, 0)) rfl ?_
                rw [← hQ]; exact ⟨rfl, hIm10, hFm10, by omega⟩
            refine zw_112 (off := 93) (t := 94) zr_7_1 (zlsw_df (by simp; omega)) rfl ?_
            refine zw_push zr_7_94 ?_
            refine zw_R zr_7_95 (by decide) zm_7 (v := (0, (-1))) rfl ?_
            rw [← hQ1]
            show zW E (d) 13 47 [(2, 45), (0, a0), (0, 50), (0, i4), (0, r11)] [(0, (-1))] m10 Q
            refine zw_3 zr_13_47 rfl ?_
            refine zw_41_1 zr_13_48 ?_ ?_
            · intro h103; omega
            · intro h104
              refine zw_R zr_13_51 (by decide) zm_13 (v := (9, 0)) rfl ?_
              rw [← hQ]; exact ⟨rfl, hIm10, hFm10, by omega⟩
      exact lp31_6 _ (0) m2 hIm2 hFm2  po0_m2 (by omega) (by omega) (Nat.lt_succ_self _)
    · intro h105
      refine zw_push zr_13_22 ?_
      refine zw_42 zr_13_23 ?_
      refine zw_9 (L' := [(2, 45), (0, a0), (0, 1), (9, 0), (9, 0)]) zr_13_28 (Nat.le_of_ble_eq_true rfl) rfl ?_
      refine zw_push zr_13_29 ?_
      refine zw_9 (L' := [(2, 45), (0, a0), (0, 1), (0, 0), (9, 0)]) zr_13_30 (Nat.le_of_ble_eq_true rfl) rfl ?_
      have lp31_108 : ∀ (nlp31_108 : Nat) (i106 : Int) (m107 : zM), zInv m107 → zFr W_13 m0 m107 → m107 45 7 = g0 → 0 ≤ i106 → i106 ≤ 50 → (50 - i106).toNat < nlp31_108 → zW E (d) 13 31 [(2, 45), (0, a0), (0, 1), (0, i106), (9, 0)] [] m107 Q := by
        intro nlp31_108
        induction nlp31_108 with
        | zero =>
          intros
          exact absurd (by assumption : _ < 0) (Nat.not_lt_zero _)
        | succ nlp31_108 ihlp31_108 =>
          intro i106 m107 hIm107 hFm107 km107_45_7 li106 ui106 hmlp31_108
          refine zw_3 zr_13_31 rfl ?_
          refine zw_3 zr_13_32 rfl ?_
          refine zw_41_3 zr_13_33 ?_ ?_
          · intro h110
            refine zw_R zr_13_82 (by decide) zm_13 (v := (9, 0)) rfl ?_
            rw [← hQ]; exact ⟨rfl, hIm107, hFm107, by omega⟩
          · intro h111
            refine zw_7 zr_13_36 rfl ?_
            refine zw_C zr_13_37 (Or.inl rfl) zm_6 rfl rfl ⟨Nat.le_of_ble_eq_true rfl, Nat.le_of_ble_eq_true rfl, Nat.le_of_ble_eq_true rfl, rfl, by decide⟩ (by omega) (th_6 (d := d - 1) (by omega) hIm107    ) ?_
            rintro _ m112 ⟨r113, rfl, hr113a, hr113b, hIm112, gm112, po0_r113⟩
            have hFm112 : zFr W_13 m0 m112 := hFm107.trans gm112 rfl
            have km112_45_7 : m112 45 7 = g0 := (gm112 45 7 rfl).trans km107_45_7
            obtain ⟨f114, ef114⟩ : ∃ v, m112 45 6 = v := ⟨_, rfl⟩
            have bf114 := ib_45_6 hIm112
            rw [ef114] at bf114
            show zW E (d) 13 40 [(2, 45), (0, a0), (0, 1), (0, i106), (9, 0)] [(0, r113)] m112 Q
            refine zw_10 (L' := [(2, 45), (0, a0), (0, 1), (0, i106), (0, r113)]) zr_13_40 (Nat.le_of_ble_eq_true rfl) rfl ?_
            refine zw_4 zr_13_42 rfl ?_
            refine zw_C zr_13_44 (Or.inr rfl) zm_7 rfl rfl ⟨Nat.le_of_ble_eq_true rfl, Nat.le_of_ble_eq_true rfl, Nat.le_of_ble_eq_true rfl, rfl, by decide⟩ (by omega) (P := (fun v m' => zW E (d) 13 47 [(2, 45), (0, a0), (0, 1), (0, i106), (0, r113)] (if v.1 = 9 then [] else v :: []) m' Q)) ?_ (fun _ _ h => h)
            generalize hQ1 : (fun v m' => zW E (d) 13 47 [(2, 45), (0, a0), (0, 1), (0, i106), (0, r113)] (if v.1 = 9 then [] else v :: []) m' Q) = Q1
            show zW E (d - 1) 7 0 [(0, r113)] [] m112 Q1
            refine zw_3 zr_7_0 rfl ?_
            by_cases h115 : r113 = 38
            · refine zw_112 (off := 85) (t := 86) zr_7_1 (by rw [h115]; rfl) rfl ?_
              refine zw_push zr_7_86 ?_
              refine zw_R zr_7_87 (by decide) zm_7 (v := (0, 1)) rfl ?_
              rw [← hQ1]
              show zW E (d) 13 47 [(2, 45), (0, a0), (0, 1), (0, i106), (0, r113)] [(0, 1)] m112 Q
              refine zw_3 zr_13_47 rfl ?_
              refine zw_41_1 zr_13_48 ?_ ?_
              · intro h116; omega
              · intro h117
                refine zw_R zr_13_51 (by decide) zm_13 (v := (9, 0)) rfl ?_
                rw [← hQ]; exact ⟨rfl, hIm112, hFm112, by omega⟩
            by_cases h118 : r113 = 42
            · refine zw_112 (off := 91) (t := 92) zr_7_1 (by rw [h118]; rfl) rfl ?_
              refine zw_push zr_7_92 ?_
              refine zw_R zr_7_93 (by decide) zm_7 (v := (0, 4)) rfl ?_
              rw [← hQ1]
              show zW E (d) 13 47 [(2, 45), (0, a0), (0, 1), (0, i106), (0, r113)] [(0, 4)] m112 Q
              refine zw_3 zr_13_47 rfl ?_
              refine zw_41_1 zr_13_48 ?_ ?_
              · intro h119; omega
              · intro h120
                refine zw_R zr_13_51 (by decide) zm_13 (v := (9, 0)) rfl ?_
                rw [← hQ]; exact ⟨rfl, hIm112, hFm112, by omega⟩
            by_cases h121 : r113 = 43
            · refine zw_112 (off := 89) (t := 90) zr_7_1 (by rw [h121]; rfl) rfl ?_
              refine zw_push zr_7_90 ?_
              refine zw_R zr_7_91 (by decide) zm_7 (v := (0, 3)) rfl ?_
              rw [← hQ1]
              show zW E (d) 13 47 [(2, 45), (0, a0), (0, 1), (0, i106), (0, r113)] [(0, 3)] m112 Q
              refine zw_3 zr_13_47 rfl ?_
              refine zw_41_1 zr_13_48 ?_ ?_
              · intro h122; omega
              · intro h123
                refine zw_R zr_13_51 (by decide) zm_13 (v := (9, 0)) rfl ?_
                rw [← hQ]; exact ⟨rfl, hIm112, hFm112, by omega⟩
            by_cases h124 : r113 = 45
            · refine zw_112 (off := 89) (t := 90) zr_7_1 (by rw [h124]; rfl) rfl ?_
              refine zw_push zr_7_90 ?_
              refine zw_R zr_7_91 (by decide) zm_7 (v := (0, 3)) rfl ?_
              rw [← hQ1]
              show zW E (d) 13 47 [(2, 45), (0, a0), (0, 1), (0, i106), (0, r113)] [(0, 3)] m112 Q
              refine zw_3 zr_13_47 rfl ?_
              refine zw_41_1 zr_13_48 ?_ ?_
              · intro h125; omega
              · intro h126
                refine zw_R zr_13_51 (by decide) zm_13 (v := (9, 0)) rfl ?_
                rw [← hQ]; exact ⟨rfl, hIm112, hFm112, by omega⟩
            by_cases h127 : r113 = 47
            · refine zw_112 (off := 91) (t := 92) zr_7_1 (by rw [h127]; rfl) rfl ?_
              refine zw_push zr_7_92 ?_
              refine zw_R zr_7_93 (by decide) zm_7 (v := (0, 4)) rfl ?_
              rw [← hQ1]
              show zW E (d) 13 47 [(2, 45), (0, a0), (0, 1), (0, i106), (0, r113)] [(0, 4)] m112 Q
              refine zw_3 zr_13_47 rfl ?_
              refine zw_41_1 zr_13_48 ?_ ?_
              · intro h128; omega
              · intro h129
                refine zw_R zr_13_51 (by decide) zm_13 (v := (9, 0)) rfl ?_
                rw [← hQ]; exact ⟨rfl, hIm112, hFm112, by omega⟩
            by_cases h130 : r113 = 60
            · refine zw_112 (off := 87) (t := 88) zr_7_1 (by rw [h130]; rfl) rfl ?_
              refine zw_push zr_7_88 ?_
              refine zw_R zr_7_89 (by decide) zm_7 (v := (0, 2)) rfl ?_
              rw [← hQ1]
              show zW E (d) 13 47 [(2, 45), (0, a0), (0, 1), (0, i106), (0, r113)] [(0, 2)] m112 Q
              refine zw_3 zr_13_47 rfl ?_
              refine zw_41_1 zr_13_48 ?_ ?_
              · intro h131
                refine zw_7 zr_13_52 rfl ?_
                refine zw_43 zr_13_53 rfl ?_
                refine zw_46i zr_13_54 ef114 rfl rfl rfl ?_
                refine zw_push zr_13_57 ?_
                refine zw_16 zr_13_58 (by omega) ?_
                refine zw_47 (c := 45) zr_13_59 rfl ⟨rfl, by decide, rfl⟩ ?_
                intro m132 em132
                have hIm132 : zInv m132 := by rw [em132]; exact hIm112.bd (r := 45) (k := 6) (lo := 0) (hi := 50) rfl (by omega) (by decide) (by decide) (by decide)
                have hFm132 : zFr W_13 m0 m132 := by rw [em132]; exact hFm112.up rfl
                have km132_45_7 : m132 45 7 = g0 := by rw [em132, zUp_ne (by omega)]; exact km112_45_7
                have km132_45_6 : m132 45 6 = (f114 + 1) := by rw [em132]; exact zUp_eq _ _ _ _
                clear em132
                refine zw_7 zr_13_62 rfl ?_
                refine zw_3 zr_13_63 rfl ?_
                refine zw_push zr_13_64 ?_
                refine zw_16 zr_13_65 (by omega) ?_
                refine zw_C zr_13_66 (Or.inl rfl) zm_13 rfl rfl ⟨Nat.le_of_ble_eq_true rfl, Nat.le_of_ble_eq_true rfl, Nat.le_of_ble_eq_true rfl, rfl, by decide⟩ (by omega) (ih13 m132 ((a0 + 1)) (g0) (by omega) hIm132 km132_45_7 (by omega)) ?_
                rintro _ m133 ⟨rfl, hIm133, gm133, po0_m133⟩
                have hFm133 : zFr W_13 m0 m133 := hFm132.trans gm133 rfl
                show zW E (d) 13 69 [(2, 45), (0, a0), (0, 1), (0, i106), (0, r113)] [] m133 Q
                refine zw_7 zr_13_69 rfl ?_
                refine zw_4 zr_13_70 rfl ?_
                refine zw_38 zr_13_72 (by omega) ?_
                refine zw_C zr_13_73 (Or.inl rfl) zm_8 rfl rfl ⟨Nat.le_of_ble_eq_true rfl, Nat.le_of_ble_eq_true rfl, Nat.le_of_ble_eq_true rfl, rfl, by decide⟩ (by omega) (P := (fun v m' => zW E (d) 13 76 [(2, 45), (0, a0), (0, 1), (0, i106), (0, r113)] (if v.1 = 9 then [] else v :: []) m' Q)) ?_ (fun _ _ h => h)
                generalize hQ1 : (fun v m' => zW E (d) 13 76 [(2, 45), (0, a0), (0, 1), (0, i106), (0, r113)] (if v.1 = 9 then [] else v :: []) m' Q) = Q1
                show zW E (d - 1) 8 0 [(2, 45), (0, (-r113))] [] m133 Q1
                refine zw_7 zr_8_0 rfl ?_
                obtain ⟨f134, ef134⟩ : ∃ v, m133 45 8 = v := ⟨_, rfl⟩
                have bf134 := ib_45_8 hIm133
                rw [ef134] at bf134
                refine zw_46i zr_8_1 ef134 rfl rfl rfl ?_
                refine zw_push zr_8_4 ?_
                refine zw_41_3 zr_8_6 ?_ ?_
                · intro h135
                  refine zw_R zr_8_29 (by decide) zm_8 (v := (9, 0)) rfl ?_
                  rw [← hQ1]
                  show zW E (d) 13 76 [(2, 45), (0, a0), (0, 1), (0, i106), (0, r113)] [] m133 Q
                  refine zw_15 (c := 1) (L' := [(2, 45), (0, a0), (0, 1), (0, (i106 + 1)), (0, r113)]) zr_13_76 rfl (by decide) (by omega) rfl ?_
                  refine zw_42 zr_13_79 ?_
                  exact zw_less (L := [(2, 45), (0, a0), (0, 1), (0, (i106 + 1)), (9, 0)]) ⟨Or.inr rfl, Or.inr rfl, Or.inr rfl, Or.inr rfl, Or.inl rfl, trivial⟩ (ihlp31_108 ((i106 + 1)) m133 hIm133 hFm133  po0_m133 (by omega) (by omega) (by omega))
                · intro h136
                  refine zw_7 zr_8_9 rfl ?_
                  refine zw_46r (s := 48) zr_8_10 rfl rfl rfl rfl ?_
                  refine zw_7 zr_8_13 rfl ?_
                  refine zw_46i zr_8_14 ef134 rfl rfl rfl ?_
                  refine zw_3 zr_8_17 rfl ?_
                  refine zw_49 (c := 48) (len := 50) zr_8_18 rfl rfl (by omega) (by omega) ?_
                  intro m137 em137
                  have hIm137 : zInv m137 := by rw [em137]; exact hIm133.any (by omega) rfl (by decide) (by decide)
                  have hFm137 : zFr W_13 m0 m137 := by rw [em137]; exact hFm133.any rfl
                  have km137_45_7 : m137 45 7 = g0 := by rw [em137, zUp_ne (by omega)]; exact po0_m133
                  have km137_45_8 : m137 45 8 = f134 := by rw [em137, zUp_ne (by omega)]; exact ef134
                  clear em137
                  refine zw_7 zr_8_19 rfl ?_
                  refine zw_43 zr_8_20 rfl ?_
                  refine zw_46i zr_8_21 km137_45_8 rfl rfl rfl ?_
                  refine zw_push zr_8_24 ?_
                  refine zw_16 zr_8_25 (by omega) ?_
                  refine zw_47 (c := 45) zr_8_26 rfl ⟨rfl, by decide, rfl⟩ ?_
                  intro m138 em138
                  have hIm138 : zInv m138 := by rw [em138]; exact hIm137.bd (r := 45) (k := 8) (lo := 0) (hi := 50) rfl (by omega) (by decide) (by decide) (by decide)
                  have hFm138 : zFr W_13 m0 m138 := by rw [em138]; exact hFm137.up rfl
                  have km138_45_7 : m138 45 7 = g0 := by rw [em138, zUp_ne (by omega)]; exact km137_45_7
                  have km138_45_8 : m138 45 8 = (f134 + 1) := by rw [em138]; exact zUp_eq _ _ _ _
                  clear em138
                  refine zw_R zr_8_29 (by decide) zm_8 (v := (9, 0)) rfl ?_
                  rw [← hQ1]
                  show zW E (d) 13 76 [(2, 45), (0, a0), (0, 1), (0, i106), (0, r113)] [] m138 Q
                  refine zw_15 (c := 1) (L' := [(2, 45), (0, a0), (0, 1), (0, (i106 + 1)), (0, r113)]) zr_13_76 rfl (by decide) (by omega) rfl ?_
                  refine zw_42 zr_13_79 ?_
                  exact zw_less (L := [(2, 45), (0, a0), (0, 1), (0, (i106 + 1)), (9, 0)]) ⟨Or.inr rfl, Or.inr rfl, Or.inr rfl, Or.inr rfl, Or.inl rfl, trivial⟩ (ihlp31_108 ((i106 + 1)) m138 hIm138 hFm138  km138_45_7 (by omega) (by omega) (by omega))
              · intro h139; omega
            by_cases h140 : r113 = 61
            · refine zw_112 (off := 87) (t := 88) zr_7_1 (by rw [h140]; rfl) rfl ?_
              refine zw_push zr_7_88 ?_
              refine zw_R zr_7_89 (by decide) zm_7 (v := (0, 2)) rfl ?_
              rw [← hQ1]
              show zW E (d) 13 47 [(2, 45), (0, a0), (0, 1), (0, i106), (0, r113)] [(0, 2)] m112 Q
              refine zw_3 zr_13_47 rfl ?_
              refine zw_41_1 zr_13_48 ?_ ?_
              · intro h141
                refine zw_7 zr_13_52 rfl ?_
                refine zw_43 zr_13_53 rfl ?_
                refine zw_46i zr_13_54 ef114 rfl rfl rfl ?_
                refine zw_push zr_13_57 ?_
                refine zw_16 zr_13_58 (by omega) ?_
                refine zw_47 (c := 45) zr_13_59 rfl ⟨rfl, by decide, rfl⟩ ?_
                intro m142 em142
                have hIm142 : zInv m142 := by rw [em142]; exact hIm112.bd (r := 45) (k := 6) (lo := 0) (hi := 50) rfl (by omega) (by decide) (by decide) (by decide)
                have hFm142 : zFr W_13 m0 m142 := by rw [em142]; exact hFm112.up rfl
                have km142_45_7 : m142 45 7 = g0 := by rw [em142, zUp_ne (by omega)]; exact km112_45_7
                have km142_45_6 : m142 45 6 = (f114 + 1) := by rw [em142]; exact zUp_eq _ _ _ _
                clear em142
                refine zw_7 zr_13_62 rfl ?_
                refine zw_3 zr_13_63 rfl ?_
                refine zw_push zr_13_64 ?_
                refine zw_16 zr_13_65 (by omega) ?_
                refine zw_C zr_13_66 (Or.inl rfl) zm_13 rfl rfl ⟨Nat.le_of_ble_eq_true rfl, Nat.le_of_ble_eq_true rfl, Nat.le_of_ble_eq_true rfl, rfl, by decide⟩ (by omega) (ih13 m142 ((a0 + 1)) (g0) (by omega) hIm142 km142_45_7 (by omega)) ?_
                rintro _ m143 ⟨rfl, hIm143, gm143, po0_m143⟩
                have hFm143 : zFr W_13 m0 m143 := hFm142.trans gm143 rfl
                show zW E (d) 13 69 [(2, 45), (0, a0), (0, 1), (0, i106), (0, r113)] [] m143 Q
                refine zw_7 zr_13_69 rfl ?_
                refine zw_4 zr_13_70 rfl ?_
                refine zw_38 zr_13_72 (by omega) ?_
                refine zw_C zr_13_73 (Or.inl rfl) zm_8 rfl rfl ⟨Nat.le_of_ble_eq_true rfl, Nat.le_of_ble_eq_true rfl, Nat.le_of_ble_eq_true rfl, rfl, by decide⟩ (by omega) (P := (fun v m' => zW E (d) 13 76 [(2, 45), (0, a0), (0, 1), (0, i106), (0, r113)] (if v.1 = 9 then [] else v :: []) m' Q)) ?_ (fun _ _ h => h)
                generalize hQ1 : (fun v m' => zW E (d) 13 76 [(2, 45), (0, a0), (0, 1), (0, i106), (0, r113)] (if v.1 = 9 then [] else v :: []) m' Q) = Q1
                show zW E (d - 1) 8 0 [(2, 45), (0, (-r113))] [] m143 Q1
                refine zw_7 zr_8_0 rfl ?_
                obtain ⟨f144, ef144⟩ : ∃ v, m143 45 8 = v := ⟨_, rfl⟩
                have bf144 := ib_45_8 hIm143
                rw [ef144] at bf144
                refine zw_46i zr_8_1 ef144 rfl rfl rfl ?_
                refine zw_push zr_8_4 ?_
                refine zw_41_3 zr_8_6 ?_ ?_
                · intro h145
                  refine zw_R zr_8_29 (by decide) zm_8 (v := (9, 0)) rfl ?_
                  rw [← hQ1]
                  show zW E (d) 13 76 [(2, 45), (0, a0), (0, 1), (0, i106), (0, r113)] [] m143 Q
                  refine zw_15 (c := 1) (L' := [(2, 45), (0, a0), (0, 1), (0, (i106 + 1)), (0, r113)]) zr_13_76 rfl (by decide) (by omega) rfl ?_
                  refine zw_42 zr_13_79 ?_
                  exact zw_less (L := [(2, 45), (0, a0), (0, 1), (0, (i106 + 1)), (9, 0)]) ⟨Or.inr rfl, Or.inr rfl, Or.inr rfl, Or.inr rfl, Or.inl rfl, trivial⟩ (ihlp31_108 ((i106 + 1)) m143 hIm143 hFm143  po0_m143 (by omega) (by omega) (by omega))
                · intro h146
                  refine zw_7 zr_8_9 rfl ?_
                  refine zw_46r (s := 48) zr_8_10 rfl rfl rfl rfl ?_
                  refine zw_7 zr_8_13 rfl ?_
                  refine zw_46i zr_8_14 ef144 rfl rfl rfl ?_
                  refine zw_3 zr_8_17 rfl ?_
                  refine zw_49 (c := 48) (len := 50) zr_8_18 rfl rfl (by omega) (by omega) ?_
                  intro m147 em147
                  have hIm147 : zInv m147 := by rw [em147]; exact hIm143.any (by omega) rfl (by decide) (by decide)
                  have hFm147 : zFr W_13 m0 m147 := by rw [em147]; exact hFm143.any rfl
                  have km147_45_7 : m147 45 7 = g0 := by rw [em147, zUp_ne (by omega)]; exact po0_m143
                  have km147_45_8 : m147 45 8 = f144 := by rw [em147, zUp_ne (by omega)]; exact ef144
                  clear em147
                  refine zw_7 zr_8_19 rfl ?_
                  refine zw_43 zr_8_20 rfl ?_
                  refine zw_46i zr_8_21 km147_45_8 rfl rfl rfl ?_
                  refine zw_push zr_8_24 ?_
                  refine zw_16 zr_8_25 (by omega) ?_
                  refine zw_47 (c := 45) zr_8_26 rfl ⟨rfl, by decide, rfl⟩ ?_
                  intro m148 em148
                  have hIm148 : zInv m148 := by rw [em148]; exact hIm147.bd (r := 45) (k := 8) (lo := 0) (hi := 50) rfl (by omega) (by decide) (by decide) (by decide)
                  have hFm148 : zFr W_13 m0 m148 := by rw [em148]; exact hFm147.up rfl
                  have km148_45_7 : m148 45 7 = g0 := by rw [em148, zUp_ne (by omega)]; exact km147_45_7
                  have km148_45_8 : m148 45 8 = (f144 + 1) := by rw [em148]; exact zUp_eq _ _ _ _
                  clear em148
                  refine zw_R zr_8_29 (by decide) zm_8 (v := (9, 0)) rfl ?_
                  rw [← hQ1]
                  show zW E (d) 13 76 [(2, 45), (0, a0), (0, 1), (0, i106), (0, r113)] [] m148 Q
                  refine zw_15 (c := 1) (L' := [(2, 45), (0, a0), (0, 1), (0, (i106 + 1)), (0, r113)]) zr_13_76 rfl (by decide) (by omega) rfl ?_
                  refine zw_42 zr_13_79 ?_
                  exact zw_less (L := [(2, 45), (0, a0), (0, 1), (0, (i106 + 1)), (9, 0)]) ⟨Or.inr rfl, Or.inr rfl, Or.inr rfl, Or.inr rfl, Or.inl rfl, trivial⟩ (ihlp31_108 ((i106 + 1)) m148 hIm148 hFm148  km148_45_7 (by omega) (by omega) (by omega))
              · intro h149; omega
            by_cases h150 : r113 = 62
            · refine zw_112 (off := 87) (t := 88) zr_7_1 (by rw [h150]; rfl) rfl ?_
              refine zw_push zr_7_88 ?_
              refine zw_R zr_7_89 (by decide) zm_7 (v := (0, 2)) rfl ?_
              rw [← hQ1]
              show zW E (d) 13 47 [(2, 45), (0, a0), (0, 1), (0, i106), (0, r113)] [(0, 2)] m112 Q
              refine zw_3 zr_13_47 rfl ?_
              refine zw_41_1 zr_13_48 ?_ ?_
              · intro h151
                refine zw_7 zr_13_52 rfl ?_
                refine zw_43 zr_13_53 rfl ?_
                refine zw_46i zr_13_54 ef114 rfl rfl rfl ?_
                refine zw_push zr_13_57 ?_
                refine zw_16 zr_13_58 (by omega) ?_
                refine zw_47 (c := 45) zr_13_59 rfl ⟨rfl, by decide, rfl⟩ ?_
                intro m152 em152
                have hIm152 : zInv m152 := by rw [em152]; exact hIm112.bd (r := 45) (k := 6) (lo := 0) (hi := 50) rfl (by omega) (by decide) (by decide) (by decide)
                have hFm152 : zFr W_13 m0 m152 := by rw [em152]; exact hFm112.up rfl
                have km152_45_7 : m152 45 7 = g0 := by rw [em152, zUp_ne (by omega)]; exact km112_45_7
                have km152_45_6 : m152 45 6 = (f114 + 1) := by rw [em152]; exact zUp_eq _ _ _ _
                clear em152
                refine zw_7 zr_13_62 rfl ?_
                refine zw_3 zr_13_63 rfl ?_
                refine zw_push zr_13_64 ?_
                refine zw_16 zr_13_65 (by omega) ?_
                refine zw_C zr_13_66 (Or.inl rfl) zm_13 rfl rfl ⟨Nat.le_of_ble_eq_true rfl, Nat.le_of_ble_eq_true rfl, Nat.le_of_ble_eq_true rfl, rfl, by decide⟩ (by omega) (ih13 m152 ((a0 + 1)) (g0) (by omega) hIm152 km152_45_7 (by omega)) ?_
                rintro _ m153 ⟨rfl, hIm153, gm153, po0_m153⟩
                have hFm153 : zFr W_13 m0 m153 := hFm152.trans gm153 rfl
                show zW E (d) 13 69 [(2, 45), (0, a0), (0, 1), (0, i106), (0, r113)] [] m153 Q
                refine zw_7 zr_13_69 rfl ?_
                refine zw_4 zr_13_70 rfl ?_
                refine zw_38 zr_13_72 (by omega) ?_
                refine zw_C zr_13_73 (Or.inl rfl) zm_8 rfl rfl ⟨Nat.le_of_ble_eq_true rfl, Nat.le_of_ble_eq_true rfl, Nat.le_of_ble_eq_true rfl, rfl, by decide⟩ (by omega) (P := (fun v m' => zW E (d) 13 76 [(2, 45), (0, a0), (0, 1), (0, i106), (0, r113)] (if v.1 = 9 then [] else v :: []) m' Q)) ?_ (fun _ _ h => h)
                generalize hQ1 : (fun v m' => zW E (d) 13 76 [(2, 45), (0, a0), (0, 1), (0, i106), (0, r113)] (if v.1 = 9 then [] else v :: []) m' Q) = Q1
                show zW E (d - 1) 8 0 [(2, 45), (0, (-r113))] [] m153 Q1
                refine zw_7 zr_8_0 rfl ?_
                obtain ⟨f154, ef154⟩ : ∃ v, m153 45 8 = v := ⟨_, rfl⟩
                have bf154 := ib_45_8 hIm153
                rw [ef154] at bf154
                refine zw_46i zr_8_1 ef154 rfl rfl rfl ?_
                refine zw_push zr_8_4 ?_
                refine zw_41_3 zr_8_6 ?_ ?_
                · intro h155
                  refine zw_R zr_8_29 (by decide) zm_8 (v := (9, 0)) rfl ?_
                  rw [← hQ1]
                  show zW E (d) 13 76 [(2, 45), (0, a0), (0, 1), (0, i106), (0, r113)] [] m153 Q
                  refine zw_15 (c := 1) (L' := [(2, 45), (0, a0), (0, 1), (0, (i106 + 1)), (0, r113)]) zr_13_76 rfl (by decide) (by omega) rfl ?_
                  refine zw_42 zr_13_79 ?_
                  exact zw_less (L := [(2, 45), (0, a0), (0, 1), (0, (i106 + 1)), (9, 0)]) ⟨Or.inr rfl, Or.inr rfl, Or.inr rfl, Or.inr rfl, Or.inl rfl, trivial⟩ (ihlp31_108 ((i106 + 1)) m153 hIm153 hFm153  po0_m153 (by omega) (by omega) (by omega))
                · intro h156
                  refine zw_7 zr_8_9 rfl ?_
                  refine zw_46r (s := 48) zr_8_10 rfl rfl rfl rfl ?_
                  refine zw_7 zr_8_13 rfl ?_
                  refine zw_46i zr_8_14 ef154 rfl rfl rfl ?_
                  refine zw_3 zr_8_17 rfl ?_
                  refine zw_49 (c := 48) (len := 50) zr_8_18 rfl rfl (by omega) (by omega) ?_
                  intro m157 em157
                  have hIm157 : zInv m157 := by rw [em157]; exact hIm153.any (by omega) rfl (by decide) (by decide)
                  have hFm157 : zFr W_13 m0 m157 := by rw [em157]; exact hFm153.any rfl
                  have km157_45_7 : m157 45 7 = g0 := by rw [em157, zUp_ne (by omega)]; exact po0_m153
                  have km157_45_8 : m157 45 8 = f154 := by rw [em157, zUp_ne (by omega)]; exact ef154
                  clear em157
                  refine zw_7 zr_8_19 rfl ?_
                  refine zw_43 zr_8_20 rfl ?_
                  refine zw_46i zr_8_21 km157_45_8 rfl rfl rfl ?_
                  refine zw_push zr_8_24 ?_
                  refine zw_16 zr_8_25 (by omega) ?_
                  refine zw_47 (c := 45) zr_8_26 rfl ⟨rfl, by decide, rfl⟩ ?_
                  intro m158 em158
                  have hIm158 : zInv m158 := by rw [em158]; exact hIm157.bd (r := 45) (k := 8) (lo := 0) (hi := 50) rfl (by omega) (by decide) (by decide) (by decide)
                  have hFm158 : zFr W_13 m0 m158 := by rw [em158]; exact hFm157.up rfl
                  have km158_45_7 : m158 45 7 = g0 := by rw [em158, zUp_ne (by omega)]; exact km157_45_7
                  have km158_45_8 : m158 45 8 = (f154 + 1) := by rw [em158]; exact zUp_eq _ _ _ _
                  clear em158
                  refine zw_R zr_8_29 (by decide) zm_8 (v := (9, 0)) rfl ?_
                  rw [← hQ1]
                  show zW E (d) 13 76 [(2, 45), (0, a0), (0, 1), (0, i106), (0, r113)] [] m158 Q
                  refine zw_15 (c := 1) (L' := [(2, 45), (0, a0), (0, 1), (0, (i106 + 1)), (0, r113)]) zr_13_76 rfl (by decide) (by omega) rfl ?_
                  refine zw_42 zr_13_79 ?_
                  exact zw_less (L := [(2, 45), (0, a0), (0, 1), (0, (i106 + 1)), (9, 0)]) ⟨Or.inr rfl, Or.inr rfl, Or.inr rfl, Or.inr rfl, Or.inl rfl, trivial⟩ (ihlp31_108 ((i106 + 1)) m158 hIm158 hFm158  km158_45_7 (by omega) (by omega) (by omega))
              · intro h159; omega
            by_cases h160 : r113 = 124
            · refine zw_112 (off := 83) (t := 84) zr_7_1 (by rw [h160]; rfl) rfl ?_
              refine zw_push zr_7_84 ?_
              refine zw_R zr_7_85 (by decide) zm_7 (v := (0, 0)) rfl ?_
              rw [← hQ1]
              show zW E (d) 13 47 [(2, 45), (0, a0), (0, 1), (0, i106), (0, r113)] [(0, 0)] m112 Q
              refine zw_3 zr_13_47 rfl ?_
              refine zw_41_1 zr_13_48 ?_ ?_
              · intro h161; omega
              · intro h162
                refine zw_R zr_13_51 (by decide) zm_13 (v := (9, 0)) rfl ?_
                rw [← hQ]; exact ⟨rfl, hIm112, hFm112, by omega⟩
            refine zw_112 (off := 93) (t := 94) zr_7_1 (zlsw_df (by simp; omega)) rfl ?_
            refine zw_push zr_7_94 ?_
            refine zw_R zr_7_95 (by decide) zm_7 (v := (0, (-1))) rfl ?_
            rw [← hQ1]
            show zW E (d) 13 47 [(2, 45), (0, a0), (0, 1), (0, i106), (0, r113)] [(0, (-1))] m112 Q
            refine zw_3 zr_13_47 rfl ?_
            refine zw_41_1 zr_13_48 ?_ ?_
            · intro h163; omega
            · intro h164
              refine zw_R zr_13_51 (by decide) zm_13 (v := (9, 0)) rfl ?_
              rw [← hQ]; exact ⟨rfl, hIm112, hFm112, by omega⟩
      exact lp31_108 _ (0) m2 hIm2 hFm2  po0_m2 (by omega) (by omega) (Nat.lt_succ_self _)
  · intro h165
    refine zw_7 zr_13_5 rfl ?_
    refine zw_C zr_13_6 (Or.inl rfl) zm_14 rfl rfl ⟨Nat.le_of_ble_eq_true rfl, Nat.le_of_ble_eq_true rfl, Nat.le_of_ble_eq_true rfl, rfl, by decide⟩ (by omega) (ih14 m0 (g0) (by omega) hI0 hg0 ) ?_
    rintro _ m166 ⟨rfl, hIm166, gm166, po0_m166⟩
    have hFm166 : zFr W_13 m0 m166 := hF0.trans gm166 rfl
    show zW E (d) 13 9 [(2, 45), (0, a0), (9, 0), (9, 0), (9, 0)] [] m166 Q
    refine zw_R zr_13_9 (by decide) zm_13 (v := (9, 0)) rfl ?_
    rw [← hQ]; exact ⟨rfl, hIm166, hFm166, by omega⟩
set_option maxHeartbeats 8000000 in
theorem tr_14 {E : zE} {d : Nat} (ih13 : rs_13 E (d - 1)) (ih14 : rs_14 E (d - 1)) (ih12 : rs_12 E (d - 1)) : rs_14 E d := by
  intro m0 g0 hd hI0 hg0
  have hF0 : zFr W_14 m0 m0 := zFr.rfl
  have bg0 := ib_45_7 hI0
  rw [hg0] at bg0
  generalize hQ : (fun (v : zV) (m' : zM) => v = (9, 0) ∧ zInv m' ∧ zFr W_14 m0 m' ∧ (m' 45 7 = g0)) = Q
  show zW E d 14 0 [(2, 45), (9, 0), (9, 0), (9, 0)] [] m0 Q
  refine zw_7 zr_14_0 rfl ?_
  obtain ⟨f1, ef1⟩ : ∃ v, m0 45 6 = v := ⟨_, rfl⟩
  have bf1 := ib_45_6 hI0
  rw [ef1] at bf1
  refine zw_46i zr_14_1 ef1 rfl rfl rfl ?_
  refine zw_9 (L' := [(2, 45), (0, f1), (9, 0), (9, 0)]) zr_14_4 (Nat.le_of_ble_eq_true rfl) rfl ?_
  refine zw_7 zr_14_5 rfl ?_
  refine zw_C zr_14_6 (Or.inl rfl) zm_6 rfl rfl ⟨Nat.le_of_ble_eq_true rfl, Nat.le_of_ble_eq_true rfl, Nat.le_of_ble_eq_true rfl, rfl, by decide⟩ (by omega) (th_6 (d := d - 1) (by omega) hI0    ) ?_
  rintro _ m2 ⟨r3, rfl, hr3a, hr3b, hIm2, gm2, po0_r3⟩
  have hFm2 : zFr W_14 m0 m2 := hF0.trans gm2 rfl
  have km2_45_7 : m2 45 7 = g0 := (gm2 45 7 rfl).trans hg0
  obtain ⟨f4, ef4⟩ : ∃ v, m2 45 6 = v := ⟨_, rfl⟩
  have bf4 := ib_45_6 hIm2
  rw [ef4] at bf4
  show zW E (d) 14 9 [(2, 45), (0, f1), (9, 0), (9, 0)] [(0, r3)] m2 Q
  refine zw_9 (L' := [(2, 45), (0, f1), (0, r3), (9, 0)]) zr_14_9 (Nat.le_of_ble_eq_true rfl) rfl ?_
  refine zw_push zr_14_10 ?_
  refine zw_9 (L' := [(2, 45), (0, f1), (0, r3), (0, 0)]) zr_14_11 (Nat.le_of_ble_eq_true rfl) rfl ?_
  have lp12_9 : ∀ (nlp12_9 : Nat) (i5 i6 p8 : Int) (m7 : zM), zInv m7 → zFr W_14 m0 m7 → m7 45 7 = g0 → m7 45 6 = p8 → (-1) ≤ i5 → i5 ≤ 127 → 0 ≤ i6 → i6 ≤ 50 → 0 ≤ p8 → p8 ≤ 50 → (i5 = -1 ∨ p8 ≤ 49) → (50 - i6).toNat < nlp12_9 → zW E (d) 14 12 [(2, 45), (0, f1), (0, i5), (0, i6)] [] m7 Q := by
    intro nlp12_9
    induction nlp12_9 with
    | zero =>
      intros
      exact absurd (by assumption : _ < 0) (Nat.not_lt_zero _)
    | succ nlp12_9 ihlp12_9 =>
      intro i5 i6 p8 m7 hIm7 hFm7 km7_45_7 km7_45_6 li5 ui5 li6 ui6 lp8 up8 hv0lp12_9 hmlp12_9
      refine zw_3 zr_14_12 rfl ?_
      refine zw_push zr_14_13 ?_
      refine zw_41_3 zr_14_15 ?_ ?_
      · intro h11
        refine zw_7 zr_14_51 rfl ?_
        refine zw_46i zr_14_52 km7_45_6 rfl rfl rfl ?_
        refine zw_9 (L' := [(2, 45), (0, f1), (0, i5), (0, p8)]) zr_14_55 (Nat.le_of_ble_eq_true rfl) rfl ?_
        refine zw_3 zr_14_56 rfl ?_
        refine zw_push zr_14_57 ?_
        refine zw_41_0 zr_14_59 ?_ ?_
        · intro h12
          refine zw_3 zr_14_75 rfl ?_
          refine zw_C zr_14_76 (Or.inr rfl) zm_10 rfl rfl ⟨Nat.le_of_ble_eq_true rfl, Nat.le_of_ble_eq_true rfl, Nat.le_of_ble_eq_true rfl, rfl, by decide⟩ (by omega) (P := (fun v m' => zW E (d) 14 79 [(2, 45), (0, f1), (0, i5), (0, p8)] (if v.1 = 9 then [] else v :: []) m' Q)) ?_ (fun _ _ h => h)
          generalize hQ1 : (fun v m' => zW E (d) 14 79 [(2, 45), (0, f1), (0, i5), (0, p8)] (if v.1 = 9 then [] else v :: []) m' Q) = Q1
          show zW E (d - 1) 10 0 [(0, i5)] [] m7 Q1
          refine zw_3 zr_10_0 rfl ?_
          refine zw_112 (off := 71) (t := 72) zr_10_1 (zlsw_df (by simp; omega)) rfl ?_
          refine zw_push zr_10_72 ?_
          refine zw_R zr_10_73 (by decide) zm_10 (v := (0, (-1))) rfl ?_
          rw [← hQ1]
          show zW E (d) 14 79 [(2, 45), (0, f1), (0, i5), (0, p8)] [(0, (-1))] m7 Q
          refine zw_push zr_14_79 ?_
          refine zw_41_1 zr_14_80 ?_ ?_
          · intro h13
            refine zw_3 zr_14_102 rfl ?_
            refine zw_push zr_14_103 ?_
            refine zw_41_4 zr_14_105 ?_ ?_
            · intro h14
              refine zw_7 zr_14_115 rfl ?_
              refine zw_push zr_14_116 ?_
              refine zw_C zr_14_117 (Or.inl rfl) zm_5 rfl rfl ⟨Nat.le_of_ble_eq_true rfl, Nat.le_of_ble_eq_true rfl, Nat.le_of_ble_eq_true rfl, rfl, by decide⟩ (by omega) (P := (fun v m' => zW E (d) 14 120 [(2, 45), (0, f1), (0, i5), (0, p8)] (if v.1 = 9 then [] else v :: []) m' Q)) ?_ (fun _ _ h => h)
              generalize hQ1 : (fun v m' => zW E (d) 14 120 [(2, 45), (0, f1), (0, i5), (0, p8)] (if v.1 = 9 then [] else v :: []) m' Q) = Q1
              show zW E (d - 1) 5 0 [(2, 45), (0, 1)] [] m7 Q1
              refine zw_7 zr_5_0 rfl ?_
              obtain ⟨f15, ef15⟩ : ∃ v, m7 45 1 = v := ⟨_, rfl⟩
              have bf15 := hIm7.fi (c := 45) (k := 1) rfl
              rw [ef15] at bf15
              refine zw_46i zr_5_1 ef15 rfl rfl rfl ?_
              refine zw_push zr_5_4 ?_
              refine zw_41_4 zr_5_5 ?_ ?_
              · intro h16
                refine zw_R zr_5_21 (by decide) zm_5 (v := (9, 0)) rfl ?_
                rw [← hQ1]
                show zW E (d) 14 120 [(2, 45), (0, f1), (0, i5), (0, p8)] [] m7 Q
                refine zw_7 zr_14_120 rfl ?_
                refine zw_3 zr_14_121 rfl ?_
                refine zw_3 zr_14_122 rfl ?_
                refine zw_C zr_14_123 (Or.inl rfl) zm_11 rfl rfl ⟨Nat.le_of_ble_eq_true rfl, Nat.le_of_ble_eq_true rfl, Nat.le_of_ble_eq_true rfl, rfl, by decide⟩ (by omega) (th_11 (d := d - 1) (by omega) hIm7 (a0 := f1) (a1 := p8)   (by omega) (by omega)) ?_
                rintro _ m17 ⟨rfl, hIm17, gm17⟩
                have hFm17 : zFr W_14 m0 m17 := hFm7.trans gm17 rfl
                have km17_45_7 : m17 45 7 = g0 := (gm17 45 7 rfl).trans km7_45_7
                have km17_45_6 : m17 45 6 = p8 := (gm17 45 6 rfl).trans km7_45_6
                have km17_45_1 : m17 45 1 = f15 := (gm17 45 1 rfl).trans ef15
                show zW E (d) 14 126 [(2, 45), (0, f1), (0, i5), (0, p8)] [] m17 Q
                refine zw_R zr_14_126 (by decide) zm_14 (v := (9, 0)) rfl ?_
                rw [← hQ]; exact ⟨rfl, hIm17, hFm17, by omega⟩
              · intro h18
                refine zw_7 zr_5_8 rfl ?_
                refine zw_7 zr_5_9 rfl ?_
                refine zw_46i zr_5_10 km7_45_6 rfl rfl rfl ?_
                refine zw_push zr_5_13 ?_
                refine zw_18 zr_5_15 (by omega) ?_
                refine zw_3 zr_5_16 rfl ?_
                refine zw_16 zr_5_17 (by omega) ?_
                refine zw_47 (c := 45) zr_5_18 rfl ⟨rfl, by decide, rfl⟩ ?_
                intro m19 em19
                have hIm19 : zInv m19 := by rw [em19]; exact hIm7.any (by omega) rfl (by decide) (by decide)
                have hFm19 : zFr W_14 m0 m19 := by rw [em19]; exact hFm7.up rfl
                have km19_45_7 : m19 45 7 = g0 := by rw [em19, zUp_ne (by omega)]; exact km7_45_7
                have km19_45_6 : m19 45 6 = p8 := by rw [em19, zUp_ne (by omega)]; exact km7_45_6
                have km19_45_1 : m19 45 1 = ((p8 * 10) + 1) := by rw [em19]; exact zUp_eq _ _ _ _
                clear em19
                refine zw_R zr_5_21 (by decide) zm_5 (v := (9, 0)) rfl ?_
                rw [← hQ1]
                show zW E (d) 14 120 [(2, 45), (0, f1), (0, i5), (0, p8)] [] m19 Q
                refine zw_7 zr_14_120 rfl ?_
                refine zw_3 zr_14_121 rfl ?_
                refine zw_3 zr_14_122 rfl ?_
                refine zw_C zr_14_123 (Or.inl rfl) zm_11 rfl rfl ⟨Nat.le_of_ble_eq_true rfl, Nat.le_of_ble_eq_true rfl, Nat.le_of_ble_eq_true rfl, rfl, by decide⟩ (by omega) (th_11 (d := d - 1) (by omega) hIm19 (a0 := f1) (a1 := p8)   (by omega) (by omega)) ?_
                rintro _ m20 ⟨rfl, hIm20, gm20⟩
                have hFm20 : zFr W_14 m0 m20 := hFm19.trans gm20 rfl
                have km20_45_7 : m20 45 7 = g0 := (gm20 45 7 rfl).trans km19_45_7
                have km20_45_6 : m20 45 6 = p8 := (gm20 45 6 rfl).trans km19_45_6
                have km20_45_1 : m20 45 1 = ((p8 * 10) + 1) := (gm20 45 1 rfl).trans km19_45_1
                show zW E (d) 14 126 [(2, 45), (0, f1), (0, i5), (0, p8)] [] m20 Q
                refine zw_R zr_14_126 (by decide) zm_14 (v := (9, 0)) rfl ?_
                rw [← hQ]; exact ⟨rfl, hIm20, hFm20, by omega⟩
            · intro h21
              refine zw_7 zr_14_108 rfl ?_
              refine zw_C zr_14_109 (Or.inl rfl) zm_12 rfl rfl ⟨Nat.le_of_ble_eq_true rfl, Nat.le_of_ble_eq_true rfl, Nat.le_of_ble_eq_true rfl, rfl, by decide⟩ (by omega) (ih12 m7 (g0) (p8) (by omega) hIm7 km7_45_7 km7_45_6 (by omega)) ?_
              rintro _ m22 ⟨rfl, hIm22, gm22, po0_m22⟩
              have hFm22 : zFr W_14 m0 m22 := hFm7.trans gm22 rfl
              show zW E (d) 14 112 [(2, 45), (0, f1), (0, i5), (0, p8)] [] m22 Q
              refine zw_42 zr_14_112 ?_
              refine zw_7 zr_14_120 rfl ?_
              refine zw_3 zr_14_121 rfl ?_
              refine zw_3 zr_14_122 rfl ?_
              refine zw_C zr_14_123 (Or.inl rfl) zm_11 rfl rfl ⟨Nat.le_of_ble_eq_true rfl, Nat.le_of_ble_eq_true rfl, Nat.le_of_ble_eq_true rfl, rfl, by decide⟩ (by omega) (th_11 (d := d - 1) (by omega) hIm22 (a0 := f1) (a1 := p8)   (by omega) (by omega)) ?_
              rintro _ m23 ⟨rfl, hIm23, gm23⟩
              have hFm23 : zFr W_14 m0 m23 := hFm22.trans gm23 rfl
              have km23_45_7 : m23 45 7 = g0 := (gm23 45 7 rfl).trans po0_m22
              show zW E (d) 14 126 [(2, 45), (0, f1), (0, i5), (0, p8)] [] m23 Q
              refine zw_R zr_14_126 (by decide) zm_14 (v := (9, 0)) rfl ?_
              rw [← hQ]; exact ⟨rfl, hIm23, hFm23, by omega⟩
          · intro h24; omega
        · intro h25
          refine zw_3 zr_14_62 rfl ?_
          refine zw_push zr_14_63 ?_
          refine zw_41_2 zr_14_65 ?_ ?_
          · intro h26
            refine zw_3 zr_14_75 rfl ?_
            refine zw_C zr_14_76 (Or.inr rfl) zm_10 rfl rfl ⟨Nat.le_of_ble_eq_true rfl, Nat.le_of_ble_eq_true rfl, Nat.le_of_ble_eq_true rfl, rfl, by decide⟩ (by omega) (P := (fun v m' => zW E (d) 14 79 [(2, 45), (0, f1), (0, i5), (0, p8)] (if v.1 = 9 then [] else v :: []) m' Q)) ?_ (fun _ _ h => h)
            generalize hQ1 : (fun v m' => zW E (d) 14 79 [(2, 45), (0, f1), (0, i5), (0, p8)] (if v.1 = 9 then [] else v :: []) m' Q) = Q1
            show zW E (d - 1) 10 0 [(0, i5)] [] m7 Q1
            refine zw_3 zr_10_0 rfl ?_
            by_cases h27 : i5 = 101
            · refine zw_112 (off := 63) (t := 64) zr_10_1 (by rw [h27]; rfl) rfl ?_
              refine zw_push zr_10_64 ?_
              refine zw_R zr_10_65 (by decide) zm_10 (v := (0, 2)) rfl ?_
              rw [← hQ1]
              show zW E (d) 14 79 [(2, 45), (0, f1), (0, i5), (0, p8)] [(0, 2)] m7 Q
              refine zw_push zr_14_79 ?_
              refine zw_41_1 zr_14_80 ?_ ?_
              · intro h28; omega
              · intro h29
                refine zw_7 zr_14_83 rfl ?_
                refine zw_43 zr_14_84 rfl ?_
                refine zw_46i zr_14_85 km7_45_6 rfl rfl rfl ?_
                refine zw_push zr_14_88 ?_
                refine zw_16 zr_14_89 (by omega) ?_
                refine zw_47 (c := 45) zr_14_90 rfl ⟨rfl, by decide, rfl⟩ ?_
                intro m30 em30
                have hIm30 : zInv m30 := by rw [em30]; exact hIm7.bd (r := 45) (k := 6) (lo := 0) (hi := 50) rfl (by omega) (by decide) (by decide) (by decide)
                have hFm30 : zFr W_14 m0 m30 := by rw [em30]; exact hFm7.up rfl
                have km30_45_7 : m30 45 7 = g0 := by rw [em30, zUp_ne (by omega)]; exact km7_45_7
                have km30_45_6 : m30 45 6 = (p8 + 1) := by rw [em30]; exact zUp_eq _ _ _ _
                clear em30
                refine zw_7 zr_14_93 rfl ?_
                refine zw_3 zr_14_94 rfl ?_
                refine zw_38 zr_14_95 (by omega) ?_
                refine zw_C zr_14_96 (Or.inl rfl) zm_8 rfl rfl ⟨Nat.le_of_ble_eq_true rfl, Nat.le_of_ble_eq_true rfl, Nat.le_of_ble_eq_true rfl, rfl, by decide⟩ (by omega) (P := (fun v m' => zW E (d) 14 99 [(2, 45), (0, f1), (0, i5), (0, p8)] (if v.1 = 9 then [] else v :: []) m' Q)) ?_ (fun _ _ h => h)
                generalize hQ1 : (fun v m' => zW E (d) 14 99 [(2, 45), (0, f1), (0, i5), (0, p8)] (if v.1 = 9 then [] else v :: []) m' Q) = Q1
                show zW E (d - 1) 8 0 [(2, 45), (0, (-i5))] [] m30 Q1
                refine zw_7 zr_8_0 rfl ?_
                obtain ⟨f31, ef31⟩ : ∃ v, m30 45 8 = v := ⟨_, rfl⟩
                have bf31 := ib_45_8 hIm30
                rw [ef31] at bf31
                refine zw_46i zr_8_1 ef31 rfl rfl rfl ?_
                refine zw_push zr_8_4 ?_
                refine zw_41_3 zr_8_6 ?_ ?_
                · intro h32
                  refine zw_R zr_8_29 (by decide) zm_8 (v := (9, 0)) rfl ?_
                  rw [← hQ1]
                  show zW E (d) 14 99 [(2, 45), (0, f1), (0, i5), (0, p8)] [] m30 Q
                  refine zw_42 zr_14_99 ?_
                  refine zw_7 zr_14_120 rfl ?_
                  refine zw_3 zr_14_121 rfl ?_
                  refine zw_3 zr_14_122 rfl ?_
                  refine zw_C zr_14_123 (Or.inl rfl) zm_11 rfl rfl ⟨Nat.le_of_ble_eq_true rfl, Nat.le_of_ble_eq_true rfl, Nat.le_of_ble_eq_true rfl, rfl, by decide⟩ (by omega) (th_11 (d := d - 1) (by omega) hIm30 (a0 := f1) (a1 := p8)   (by omega) (by omega)) ?_
                  rintro _ m33 ⟨rfl, hIm33, gm33⟩
                  have hFm33 : zFr W_14 m0 m33 := hFm30.trans gm33 rfl
                  have km33_45_7 : m33 45 7 = g0 := (gm33 45 7 rfl).trans km30_45_7
                  have km33_45_6 : m33 45 6 = (p8 + 1) := (gm33 45 6 rfl).trans km30_45_6
                  show zW E (d) 14 126 [(2, 45), (0, f1), (0, i5), (0, p8)] [] m33 Q
                  refine zw_R zr_14_126 (by decide) zm_14 (v := (9, 0)) rfl ?_
                  rw [← hQ]; exact ⟨rfl, hIm33, hFm33, by omega⟩
                · intro h34
                  refine zw_7 zr_8_9 rfl ?_
                  refine zw_46r (s := 48) zr_8_10 rfl rfl rfl rfl ?_
                  refine zw_7 zr_8_13 rfl ?_
                  refine zw_46i zr_8_14 ef31 rfl rfl rfl ?_
                  refine zw_3 zr_8_17 rfl ?_
                  refine zw_49 (c := 48) (len := 50) zr_8_18 rfl rfl (by omega) (by omega) ?_
                  intro m35 em35
                  have hIm35 : zInv m35 := by rw [em35]; exact hIm30.any (by omega) rfl (by decide) (by decide)
                  have hFm35 : zFr W_14 m0 m35 := by rw [em35]; exact hFm30.any rfl
                  have km35_45_7 : m35 45 7 = g0 := by rw [em35, zUp_ne (by omega)]; exact km30_45_7
                  have km35_45_6 : m35 45 6 = (p8 + 1) := by rw [em35, zUp_ne (by omega)]; exact km30_45_6
                  have km35_45_8 : m35 45 8 = f31 := by rw [em35, zUp_ne (by omega)]; exact ef31
                  clear em35
                  refine zw_7 zr_8_19 rfl ?_
                  refine zw_43 zr_8_20 rfl ?_
                  refine zw_46i zr_8_21 km35_45_8 rfl rfl rfl ?_
                  refine zw_push zr_8_24 ?_
                  refine zw_16 zr_8_25 (by omega) ?_
                  refine zw_47 (c := 45) zr_8_26 rfl ⟨rfl, by decide, rfl⟩ ?_
                  intro m36 em36
                  have hIm36 : zInv m36 := by rw [em36]; exact hIm35.bd (r := 45) (k := 8) (lo := 0) (hi := 50) rfl (by omega) (by decide) (by decide) (by decide)
                  have hFm36 : zFr W_14 m0 m36 := by rw [em36]; exact hFm35.up rfl
                  have km36_45_7 : m36 45 7 = g0 := by rw [em36, zUp_ne (by omega)]; exact km35_45_7
                  have km36_45_6 : m36 45 6 = (p8 + 1) := by rw [em36, zUp_ne (by omega)]; exact km35_45_6
                  have km36_45_8 : m36 45 8 = (f31 + 1) := by rw [em36]; exact zUp_eq _ _ _ _
                  clear em36
                  refine zw_R zr_8_29 (by decide) zm_8 (v := (9, 0)) rfl ?_
                  rw [← hQ1]
                  show zW E (d) 14 99 [(2, 45), (0, f1), (0, i5), (0, p8)] [] m36 Q
                  refine zw_42 zr_14_99 ?_
                  refine zw_7 zr_14_120 rfl ?_
                  refine zw_3 zr_14_121 rfl ?_
                  refine zw_3 zr_14_122 rfl ?_
                  refine zw_C zr_14_123 (Or.inl rfl) zm_11 rfl rfl ⟨Nat.le_of_ble_eq_true rfl, Nat.le_of_ble_eq_true rfl, Nat.le_of_ble_eq_true rfl, rfl, by decide⟩ (by omega) (th_11 (d := d - 1) (by omega) hIm36 (a0 := f1) (a1 := p8)   (by omega) (by omega)) ?_
                  rintro _ m37 ⟨rfl, hIm37, gm37⟩
                  have hFm37 : zFr W_14 m0 m37 := hFm36.trans gm37 rfl
                  have km37_45_7 : m37 45 7 = g0 := (gm37 45 7 rfl).trans km36_45_7
                  have km37_45_6 : m37 45 6 = (p8 + 1) := (gm37 45 6 rfl).trans km36_45_6
                  show zW E (d) 14 126 [(2, 45), (0, f1), (0, i5), (0, p8)] [] m37 Q
                  refine zw_R zr_14_126 (by decide) zm_14 (v := (9, 0)) rfl ?_
                  rw [← hQ]; exact ⟨rfl, hIm37, hFm37, by omega⟩
            by_cases h38 : i5 = 103
            · refine zw_112 (off := 69) (t := 70) zr_10_1 (by rw [h38]; rfl) rfl ?_
              refine zw_push zr_10_70 ?_
              refine zw_R zr_10_71 (by decide) zm_10 (v := (0, 5)) rfl ?_
              rw [← hQ1]
              show zW E (d) 14 79 [(2, 45), (0, f1), (0, i5), (0, p8)] [(0, 5)] m7 Q
              refine zw_push zr_14_79 ?_
              refine zw_41_1 zr_14_80 ?_ ?_
              · intro h39; omega
              · intro h40
                refine zw_7 zr_14_83 rfl ?_
                refine zw_43 zr_14_84 rfl ?_
                refine zw_46i zr_14_85 km7_45_6 rfl rfl rfl ?_
                refine zw_push zr_14_88 ?_
                refine zw_16 zr_14_89 (by omega) ?_
                refine zw_47 (c := 45) zr_14_90 rfl ⟨rfl, by decide, rfl⟩ ?_
                intro m41 em41
                have hIm41 : zInv m41 := by rw [em41]; exact hIm7.bd (r := 45) (k := 6) (lo := 0) (hi := 50) rfl (by omega) (by decide) (by decide) (by decide)
                have hFm41 : zFr W_14 m0 m41 := by rw [em41]; exact hFm7.up rfl
                have km41_45_7 : m41 45 7 = g0 := by rw [em41, zUp_ne (by omega)]; exact km7_45_7
                have km41_45_6 : m41 45 6 = (p8 + 1) := by rw [em41]; exact zUp_eq _ _ _ _
                clear em41
                refine zw_7 zr_14_93 rfl ?_
                refine zw_3 zr_14_94 rfl ?_
                refine zw_38 zr_14_95 (by omega) ?_
                refine zw_C zr_14_96 (Or.inl rfl) zm_8 rfl rfl ⟨Nat.le_of_ble_eq_true rfl, Nat.le_of_ble_eq_true rfl, Nat.le_of_ble_eq_true rfl, rfl, by decide⟩ (by omega) (P := (fun v m' => zW E (d) 14 99 [(2, 45), (0, f1), (0, i5), (0, p8)] (if v.1 = 9 then [] else v :: []) m' Q)) ?_ (fun _ _ h => h)
                generalize hQ1 : (fun v m' => zW E (d) 14 99 [(2, 45), (0, f1), (0, i5), (0, p8)] (if v.1 = 9 then [] else v :: []) m' Q) = Q1
                show zW E (d - 1) 8 0 [(2, 45), (0, (-i5))] [] m41 Q1
                refine zw_7 zr_8_0 rfl ?_
                obtain ⟨f42, ef42⟩ : ∃ v, m41 45 8 = v := ⟨_, rfl⟩
                have bf42 := ib_45_8 hIm41
                rw [ef42] at bf42
                refine zw_46i zr_8_1 ef42 rfl rfl rfl ?_
                refine zw_push zr_8_4 ?_
                refine zw_41_3 zr_8_6 ?_ ?_
                · intro h43
                  refine zw_R zr_8_29 (by decide) zm_8 (v := (9, 0)) rfl ?_
                  rw [← hQ1]
                  show zW E (d) 14 99 [(2, 45), (0, f1), (0, i5), (0, p8)] [] m41 Q
                  refine zw_42 zr_14_99 ?_
                  refine zw_7 zr_14_120 rfl ?_
                  refine zw_3 zr_14_121 rfl ?_
                  refine zw_3 zr_14_122 rfl ?_
                  refine zw_C zr_14_123 (Or.inl rfl) zm_11 rfl rfl ⟨Nat.le_of_ble_eq_true rfl, Nat.le_of_ble_eq_true rfl, Nat.le_of_ble_eq_true rfl, rfl, by decide⟩ (by omega) (th_11 (d := d - 1) (by omega) hIm41 (a0 := f1) (a1 := p8)   (by omega) (by omega)) ?_
                  rintro _ m44 ⟨rfl, hIm44, gm44⟩
                  have hFm44 : zFr W_14 m0 m44 := hFm41.trans gm44 rfl
                  have km44_45_7 : m44 45 7 = g0 := (gm44 45 7 rfl).trans km41_45_7
                  have km44_45_6 : m44 45 6 = (p8 + 1) := (gm44 45 6 rfl).trans km41_45_6
                  show zW E (d) 14 126 [(2, 45), (0, f1), (0, i5), (0, p8)] [] m44 Q
                  refine zw_R zr_14_126 (by decide) zm_14 (v := (9, 0)) rfl ?_
                  rw [← hQ]; exact ⟨rfl, hIm44, hFm44, by omega⟩
                · intro h45
                  refine zw_7 zr_8_9 rfl ?_
                  refine zw_46r (s := 48) zr_8_10 rfl rfl rfl rfl ?_
                  refine zw_7 zr_8_13 rfl ?_
                  refine zw_46i zr_8_14 ef42 rfl rfl rfl ?_
                  refine zw_3 zr_8_17 rfl ?_
                  refine zw_49 (c := 48) (len := 50) zr_8_18 rfl rfl (by omega) (by omega) ?_
                  intro m46 em46
                  have hIm46 : zInv m46 := by rw [em46]; exact hIm41.any (by omega) rfl (by decide) (by decide)
                  have hFm46 : zFr W_14 m0 m46 := by rw [em46]; exact hFm41.any rfl
                  have km46_45_7 : m46 45 7 = g0 := by rw [em46, zUp_ne (by omega)]; exact km41_45_7
                  have km46_45_6 : m46 45 6 = (p8 + 1) := by rw [em46, zUp_ne (by omega)]; exact km41_45_6
                  have km46_45_8 : m46 45 8 = f42 := by rw [em46, zUp_ne (by omega)]; exact ef42
                  clear em46
                  refine zw_7 zr_8_19 rfl ?_
                  refine zw_43 zr_8_20 rfl ?_
                  refine zw_46i zr_8_21 km46_45_8 rfl rfl rfl ?_
                  refine zw_push zr_8_24 ?_
                  refine zw_16 zr_8_25 (by omega) ?_
                  refine zw_47 (c := 45) zr_8_26 rfl ⟨rfl, by decide, rfl⟩ ?_
                  intro m47 em47
                  have hIm47 : zInv m47 := by rw [em47]; exact hIm46.bd (r := 45) (k := 8) (lo := 0) (hi := 50) rfl (by omega) (by decide) (by decide) (by decide)
                  have hFm47 : zFr W_14 m0 m47 := by rw [em47]; exact hFm46.up rfl
                  have km47_45_7 : m47 45 7 = g0 := by rw [em47, zUp_ne (by omega)]; exact km46_45_7
                  have km47_45_6 : m47 45 6 = (p8 + 1) := by rw [em47, zUp_ne (by omega)]; exact km46_45_6
                  have km47_45_8 : m47 45 8 = (f42 + 1) := by rw [em47]; exact zUp_eq _ _ _ _
                  clear em47
                  refine zw_R zr_8_29 (by decide) zm_8 (v := (9, 0)) rfl ?_
                  rw [← hQ1]
                  show zW E (d) 14 99 [(2, 45), (0, f1), (0, i5), (0, p8)] [] m47 Q
                  refine zw_42 zr_14_99 ?_
                  refine zw_7 zr_14_120 rfl ?_
                  refine zw_3 zr_14_121 rfl ?_
                  refine zw_3 zr_14_122 rfl ?_
                  refine zw_C zr_14_123 (Or.inl rfl) zm_11 rfl rfl ⟨Nat.le_of_ble_eq_true rfl, Nat.le_of_ble_eq_true rfl, Nat.le_of_ble_eq_true rfl, rfl, by decide⟩ (by omega) (th_11 (d := d - 1) (by omega) hIm47 (a0 := f1) (a1 := p8)   (by omega) (by omega)) ?_
                  rintro _ m48 ⟨rfl, hIm48, gm48⟩
                  have hFm48 : zFr W_14 m0 m48 := hFm47.trans gm48 rfl
                  have km48_45_7 : m48 45 7 = g0 := (gm48 45 7 rfl).trans km47_45_7
                  have km48_45_6 : m48 45 6 = (p8 + 1) := (gm48 45 6 rfl).trans km47_45_6
                  show zW E (d) 14 126 [(2, 45), (0, f1), (0, i5), (0, p8)] [] m48 Q
                  refine zw_R zr_14_126 (by decide) zm_14 (v := (9, 0)) rfl ?_
                  rw [← hQ]; exact ⟨rfl, hIm48, hFm48, by omega⟩
            by_cases h49 : i5 = 109
            · refine zw_112 (off := 65) (t := 66) zr_10_1 (by rw [h49]; rfl) rfl ?_
              refine zw_push zr_10_66 ?_
              refine zw_R zr_10_67 (by decide) zm_10 (v := (0, 3)) rfl ?_
              rw [← hQ1]
              show zW E (d) 14 79 [(2, 45), (0, f1), (0, i5), (0, p8)] [(0, 3)] m7 Q
              refine zw_push zr_14_79 ?_
              refine zw_41_1 zr_14_80 ?_ ?_
              · intro h50; omega
              · intro h51
                refine zw_7 zr_14_83 rfl ?_
                refine zw_43 zr_14_84 rfl ?_
                refine zw_46i zr_14_85 km7_45_6 rfl rfl rfl ?_
                refine zw_push zr_14_88 ?_
                refine zw_16 zr_14_89 (by omega) ?_
                refine zw_47 (c := 45) zr_14_90 rfl ⟨rfl, by decide, rfl⟩ ?_
                intro m52 em52
                have hIm52 : zInv m52 := by rw [em52]; exact hIm7.bd (r := 45) (k := 6) (lo := 0) (hi := 50) rfl (by omega) (by decide) (by decide) (by decide)
                have hFm52 : zFr W_14 m0 m52 := by rw [em52]; exact hFm7.up rfl
                have km52_45_7 : m52 45 7 = g0 := by rw [em52, zUp_ne (by omega)]; exact km7_45_7
                have km52_45_6 : m52 45 6 = (p8 + 1) := by rw [em52]; exact zUp_eq _ _ _ _
                clear em52
                refine zw_7 zr_14_93 rfl ?_
                refine zw_3 zr_14_94 rfl ?_
                refine zw_38 zr_14_95 (by omega) ?_
                refine zw_C zr_14_96 (Or.inl rfl) zm_8 rfl rfl ⟨Nat.le_of_ble_eq_true rfl, Nat.le_of_ble_eq_true rfl, Nat.le_of_ble_eq_true rfl, rfl, by decide⟩ (by omega) (P := (fun v m' => zW E (d) 14 99 [(2, 45), (0, f1), (0, i5), (0, p8)] (if v.1 = 9 then [] else v :: []) m' Q)) ?_ (fun _ _ h => h)
                generalize hQ1 : (fun v m' => zW E (d) 14 99 [(2, 45), (0, f1), (0, i5), (0, p8)] (if v.1 = 9 then [] else v :: []) m' Q) = Q1
                show zW E (d - 1) 8 0 [(2, 45), (0, (-i5))] [] m52 Q1
                refine zw_7 zr_8_0 rfl ?_
                obtain ⟨f53, ef53⟩ : ∃ v, m52 45 8 = v := ⟨_, rfl⟩
                have bf53 := ib_45_8 hIm52
                rw [ef53] at bf53
                refine zw_46i zr_8_1 ef53 rfl rfl rfl ?_
                refine zw_push zr_8_4 ?_
                refine zw_41_3 zr_8_6 ?_ ?_
                · intro h54
                  refine zw_R zr_8_29 (by decide) zm_8 (v := (9, 0)) rfl ?_
                  rw [← hQ1]
                  show zW E (d) 14 99 [(2, 45), (0, f1), (0, i5), (0, p8)] [] m52 Q
                  refine zw_42 zr_14_99 ?_
                  refine zw_7 zr_14_120 rfl ?_
                  refine zw_3 zr_14_121 rfl ?_
                  refine zw_3 zr_14_122 rfl ?_
                  refine zw_C zr_14_123 (Or.inl rfl) zm_11 rfl rfl ⟨Nat.le_of_ble_eq_true rfl, Nat.le_of_ble_eq_true rfl, Nat.le_of_ble_eq_true rfl, rfl, by decide⟩ (by omega) (th_11 (d := d - 1) (by omega) hIm52 (a0 := f1) (a1 := p8)   (by omega) (by omega)) ?_
                  rintro _ m55 ⟨rfl, hIm55, gm55⟩
                  have hFm55 : zFr W_14 m0 m55 := hFm52.trans gm55 rfl
                  have km55_45_7 : m55 45 7 = g0 := (gm55 45 7 rfl).trans km52_45_7
                  have km55_45_6 : m55 45 6 = (p8 + 1) := (gm55 45 6 rfl).trans km52_45_6
                  show zW E (d) 14 126 [(2, 45), (0, f1), (0, i5), (0, p8)] [] m55 Q
                  refine zw_R zr_14_126 (by decide) zm_14 (v := (9, 0)) rfl ?_
                  rw [← hQ]; exact ⟨rfl, hIm55, hFm55, by omega⟩
                · intro h56
                  refine zw_7 zr_8_9 rfl ?_
                  refine zw_46r (s := 48) zr_8_10 rfl rfl rfl rfl ?_
                  refine zw_7 zr_8_13 rfl ?_
                  refine zw_46i zr_8_14 ef53 rfl rfl rfl ?_
                  refine zw_3 zr_8_17 rfl ?_
                  refine zw_49 (c := 48) (len := 50) zr_8_18 rfl rfl (by omega) (by omega) ?_
                  intro m57 em57
                  have hIm57 : zInv m57 := by rw [em57]; exact hIm52.any (by omega) rfl (by decide) (by decide)
                  have hFm57 : zFr W_14 m0 m57 := by rw [em57]; exact hFm52.any rfl
                  have km57_45_7 : m57 45 7 = g0 := by rw [em57, zUp_ne (by omega)]; exact km52_45_7
                  have km57_45_6 : m57 45 6 = (p8 + 1) := by rw [em57, zUp_ne (by omega)]; exact km52_45_6
                  have km57_45_8 : m57 45 8 = f53 := by rw [em57, zUp_ne (by omega)]; exact ef53
                  clear em57
                  refine zw_7 zr_8_19 rfl ?_
                  refine zw_43 zr_8_20 rfl ?_
                  refine zw_46i zr_8_21 km57_45_8 rfl rfl rfl ?_
                  refine zw_push zr_8_24 ?_
                  refine zw_16 zr_8_25 (by omega) ?_
                  refine zw_47 (c := 45) zr_8_26 rfl ⟨rfl, by decide, rfl⟩ ?_
                  intro m58 em58
                  have hIm58 : zInv m58 := by rw [em58]; exact hIm57.bd (r := 45) (k := 8) (lo := 0) (hi := 50) rfl (by omega) (by decide) (by decide) (by decide)
                  have hFm58 : zFr W_14 m0 m58 := by rw [em58]; exact hFm57.up rfl
                  have km58_45_7 : m58 45 7 = g0 := by rw [em58, zUp_ne (by omega)]; exact km57_45_7
                  have km58_45_6 : m58 45 6 = (p8 + 1) := by rw [em58, zUp_ne (by omega)]; exact km57_45_6
                  have km58_45_8 : m58 45 8 = (f53 + 1) := by rw [em58]; exact zUp_eq _ _ _ _
                  clear em58
                  refine zw_R zr_8_29 (by decide) zm_8 (v := (9, 0)) rfl ?_
                  rw [← hQ1]
                  show zW E (d) 14 99 [(2, 45), (0, f1), (0, i5), (0, p8)] [] m58 Q
                  refine zw_42 zr_14_99 ?_
                  refine zw_7 zr_14_120 rfl ?_
                  refine zw_3 zr_14_121 rfl ?_
                  refine zw_3 zr_14_122 rfl ?_
                  refine zw_C zr_14_123 (Or.inl rfl) zm_11 rfl rfl ⟨Nat.le_of_ble_eq_true rfl, Nat.le_of_ble_eq_true rfl, Nat.le_of_ble_eq_true rfl, rfl, by decide⟩ (by omega) (th_11 (d := d - 1) (by omega) hIm58 (a0 := f1) (a1 := p8)   (by omega) (by omega)) ?_
                  rintro _ m59 ⟨rfl, hIm59, gm59⟩
                  have hFm59 : zFr W_14 m0 m59 := hFm58.trans gm59 rfl
                  have km59_45_7 : m59 45 7 = g0 := (gm59 45 7 rfl).trans km58_45_7
                  have km59_45_6 : m59 45 6 = (p8 + 1) := (gm59 45 6 rfl).trans km58_45_6
                  show zW E (d) 14 126 [(2, 45), (0, f1), (0, i5), (0, p8)] [] m59 Q
                  refine zw_R zr_14_126 (by decide) zm_14 (v := (9, 0)) rfl ?_
                  rw [← hQ]; exact ⟨rfl, hIm59, hFm59, by omega⟩
            by_cases h60 : i5 = 111
            · refine zw_112 (off := 61) (t := 62) zr_10_1 (by rw [h60]; rfl) rfl ?_
              refine zw_push zr_10_62 ?_
              refine zw_R zr_10_63 (by decide) zm_10 (v := (0, 1)) rfl ?_
              rw [← hQ1]
              show zW E (d) 14 79 [(2, 45), (0, f1), (0, i5), (0, p8)] [(0, 1)] m7 Q
              refine zw_push zr_14_79 ?_
              refine zw_41_1 zr_14_80 ?_ ?_
              · intro h61; omega
              · intro h62
                refine zw_7 zr_14_83 rfl ?_
                refine zw_43 zr_14_84 rfl ?_
                refine zw_46i zr_14_85 km7_45_6 rfl rfl rfl ?_
                refine zw_push zr_14_88 ?_
                refine zw_16 zr_14_89 (by omega) ?_
                refine zw_47 (c := 45) zr_14_90 rfl ⟨rfl, by decide, rfl⟩ ?_
                intro m63 em63
                have hIm63 : zInv m63 := by rw [em63]; exact hIm7.bd (r := 45) (k := 6) (lo := 0) (hi := 50) rfl (by omega) (by decide) (by decide) (by decide)
                have hFm63 : zFr W_14 m0 m63 := by rw [em63]; exact hFm7.up rfl
                have km63_45_7 : m63 45 7 = g0 := by rw [em63, zUp_ne (by omega)]; exact km7_45_7
                have km63_45_6 : m63 45 6 = (p8 + 1) := by rw [em63]; exact zUp_eq _ _ _ _
                clear em63
                refine zw_7 zr_14_93 rfl ?_
                refine zw_3 zr_14_94 rfl ?_
                refine zw_38 zr_14_95 (by omega) ?_
                refine zw_C zr_14_96 (Or.inl rfl) zm_8 rfl rfl ⟨Nat.le_of_ble_eq_true rfl, Nat.le_of_ble_eq_true rfl, Nat.le_of_ble_eq_true rfl, rfl, by decide⟩ (by omega) (P := (fun v m' => zW E (d) 14 99 [(2, 45), (0, f1), (0, i5), (0, p8)] (if v.1 = 9 then [] else v :: []) m' Q)) ?_ (fun _ _ h => h)
                generalize hQ1 : (fun v m' => zW E (d) 14 99 [(2, 45), (0, f1), (0, i5), (0, p8)] (if v.1 = 9 then [] else v :: []) m' Q) = Q1
                show zW E (d - 1) 8 0 [(2, 45), (0, (-i5))] [] m63 Q1
                refine zw_7 zr_8_0 rfl ?_
                obtain ⟨f64, ef64⟩ : ∃ v, m63 45 8 = v := ⟨_, rfl⟩
                have bf64 := ib_45_8 hIm63
                rw [ef64] at bf64
                refine zw_46i zr_8_1 ef64 rfl rfl rfl ?_
                refine zw_push zr_8_4 ?_
                refine zw_41_3 zr_8_6 ?_ ?_
                · intro h65
                  refine zw_R zr_8_29 (by decide) zm_8 (v := (9, 0)) rfl ?_
                  rw [← hQ1]
                  show zW E (d) 14 99 [(2, 45), (0, f1), (0, i5), (0, p8)] [] m63 Q
                  refine zw_42 zr_14_99 ?_
                  refine zw_7 zr_14_120 rfl ?_
                  refine zw_3 zr_14_121 rfl ?_
                  refine zw_3 zr_14_122 rfl ?_
                  refine zw_C zr_14_123 (Or.inl rfl) zm_11 rfl rfl ⟨Nat.le_of_ble_eq_true rfl, Nat.le_of_ble_eq_true rfl, Nat.le_of_ble_eq_true rfl, rfl, by decide⟩ (by omega) (th_11 (d := d - 1) (by omega) hIm63 (a0 := f1) (a1 := p8)   (by omega) (by omega)) ?_
                  rintro _ m66 ⟨rfl, hIm66, gm66⟩
                  have hFm66 : zFr W_14 m0 m66 := hFm63.trans gm66 rfl
                  have km66_45_7 : m66 45 7 = g0 := (gm66 45 7 rfl).trans km63_45_7
                  have km66_45_6 : m66 45 6 = (p8 + 1) := (gm66 45 6 rfl).trans km63_45_6
                  show zW E (d) 14 126 [(2, 45), (0, f1), (0, i5), (0, p8)] [] m66 Q
                  refine zw_R zr_14_126 (by decide) zm_14 (v := (9, 0)) rfl ?_
                  rw [← hQ]; exact ⟨rfl, hIm66, hFm66, by omega⟩
                · intro h67
                  refine zw_7 zr_8_9 rfl ?_
                  refine zw_46r (s := 48) zr_8_10 rfl rfl rfl rfl ?_
                  refine zw_7 zr_8_13 rfl ?_
                  refine zw_46i zr_8_14 ef64 rfl rfl rfl ?_
                  refine zw_3 zr_8_17 rfl ?_
                  refine zw_49 (c := 48) (len := 50) zr_8_18 rfl rfl (by omega) (by omega) ?_
                  intro m68 em68
                  have hIm68 : zInv m68 := by rw [em68]; exact hIm63.any (by omega) rfl (by decide) (by decide)
                  have hFm68 : zFr W_14 m0 m68 := by rw [em68]; exact hFm63.any rfl
                  have km68_45_7 : m68 45 7 = g0 := by rw [em68, zUp_ne (by omega)]; exact km63_45_7
                  have km68_45_6 : m68 45 6 = (p8 + 1) := by rw [em68, zUp_ne (by omega)]; exact km63_45_6
                  have km68_45_8 : m68 45 8 = f64 := by rw [em68, zUp_ne (by omega)]; exact ef64
                  clear em68
                  refine zw_7 zr_8_19 rfl ?_
                  refine zw_43 zr_8_20 rfl ?_
                  refine zw_46i zr_8_21 km68_45_8 rfl rfl rfl ?_
                  refine zw_push zr_8_24 ?_
                  refine zw_16 zr_8_25 (by omega) ?_
                  refine zw_47 (c := 45) zr_8_26 rfl ⟨rfl, by decide, rfl⟩ ?_
                  intro m69 em69
                  have hIm69 : zInv m69 := by rw [em69]; exact hIm68.bd (r := 45) (k := 8) (lo := 0) (hi := 50) rfl (by omega) (by decide) (by decide) (by decide)
                  have hFm69 : zFr W_14 m0 m69 := by rw [em69]; exact hFm68.up rfl
                  have km69_45_7 : m69 45 7 = g0 := by rw [em69, zUp_ne (by omega)]; exact km68_45_7
                  have km69_45_6 : m69 45 6 = (p8 + 1) := by rw [em69, zUp_ne (by omega)]; exact km68_45_6
                  have km69_45_8 : m69 45 8 = (f64 + 1) := by rw [em69]; exact zUp_eq _ _ _ _
                  clear em69
                  refine zw_R zr_8_29 (by decide) zm_8 (v := (9, 0)) rfl ?_
                  rw [← hQ1]
                  show zW E (d) 14 99 [(2, 45), (0, f1), (0, i5), (0, p8)] [] m69 Q
                  refine zw_42 zr_14_99 ?_
                  refine zw_7 zr_14_120 rfl ?_
                  refine zw_3 zr_14_121 rfl ?_
                  refine zw_3 zr_14_122 rfl ?_
                  refine zw_C zr_14_123 (Or.inl rfl) zm_11 rfl rfl ⟨Nat.le_of_ble_eq_true rfl, Nat.le_of_ble_eq_true rfl, Nat.le_of_ble_eq_true rfl, rfl, by decide⟩ (by omega) (th_11 (d := d - 1) (by omega) hIm69 (a0 := f1) (a1 := p8)   (by omega) (by omega)) ?_
                  rintro _ m70 ⟨rfl, hIm70, gm70⟩
                  have hFm70 : zFr W_14 m0 m70 := hFm69.trans gm70 rfl
                  have km70_45_7 : m70 45 7 = g0 := (gm70 45 7 rfl).trans km69_45_7
                  have km70_45_6 : m70 45 6 = (p8 + 1) := (gm70 45 6 rfl).trans km69_45_6
                  show zW E (d) 14 126 [(2, 45), (0, f1), (0, i5), (0, p8)] [] m70 Q
                  refine zw_R zr_14_126 (by decide) zm_14 (v := (9, 0)) rfl ?_
                  rw [← hQ]; exact ⟨rfl, hIm70, hFm70, by omega⟩
            by_cases h71 : i5 = 120
            · refine zw_112 (off := 59) (t := 60) zr_10_1 (by rw [h71]; rfl) rfl ?_
              refine zw_push zr_10_60 ?_
              refine zw_R zr_10_61 (by decide) zm_10 (v := (0, 0)) rfl ?_
              rw [← hQ1]
              show zW E (d) 14 79 [(2, 45), (0, f1), (0, i5), (0, p8)] [(0, 0)] m7 Q
              refine zw_push zr_14_79 ?_
              refine zw_41_1 zr_14_80 ?_ ?_
              · intro h72; omega
              · intro h73
                refine zw_7 zr_14_83 rfl ?_
                refine zw_43 zr_14_84 rfl ?_
                refine zw_46i zr_14_85 km7_45_6 rfl rfl rfl ?_
                refine zw_push zr_14_88 ?_
                refine zw_16 zr_14_89 (by omega) ?_
                refine zw_47 (c := 45) zr_14_90 rfl ⟨rfl, by decide, rfl⟩ ?_
                intro m74 em74
                have hIm74 : zInv m74 := by rw [em74]; exact hIm7.bd (r := 45) (k := 6) (lo := 0) (hi := 50) rfl (by omega) (by decide) (by decide) (by decide)
                have hFm74 : zFr W_14 m0 m74 := by rw [em74]; exact hFm7.up rfl
                have km74_45_7 : m74 45 7 = g0 := by rw [em74, zUp_ne (by omega)]; exact km7_45_7
                have km74_45_6 : m74 45 6 = (p8 + 1) := by rw [em74]; exact zUp_eq _ _ _ _
                clear em74
                refine zw_7 zr_14_93 rfl ?_
                refine zw_3 zr_14_94 rfl ?_
                refine zw_38 zr_14_95 (by omega) ?_
                refine zw_C zr_14_96 (Or.inl rfl) zm_8 rfl rfl ⟨Nat.le_of_ble_eq_true rfl, Nat.le_of_ble_eq_true rfl, Nat.le_of_ble_eq_true rfl, rfl, by decide⟩ (by omega) (P := (fun v m' => zW E (d) 14 99 [(2, 45), (0, f1), (0, i5), (0, p8)] (if v.1 = 9 then [] else v :: []) m' Q)) ?_ (fun _ _ h => h)
                generalize hQ1 : (fun v m' => zW E (d) 14 99 [(2, 45), (0, f1), (0, i5), (0, p8)] (if v.1 = 9 then [] else v :: []) m' Q) = Q1
                show zW E (d - 1) 8 0 [(2, 45), (0, (-i5))] [] m74 Q1
                refine zw_7 zr_8_0 rfl ?_
                obtain ⟨f75, ef75⟩ : ∃ v, m74 45 8 = v := ⟨_, rfl⟩
                have bf75 := ib_45_8 hIm74
                rw [ef75] at bf75
                refine zw_46i zr_8_1 ef75 rfl rfl rfl ?_
                refine zw_push zr_8_4 ?_
                refine zw_41_3 zr_8_6 ?_ ?_
                · intro h76
                  refine zw_R zr_8_29 (by decide) zm_8 (v := (9, 0)) rfl ?_
                  rw [← hQ1]
                  show zW E (d) 14 99 [(2, 45), (0, f1), (0, i5), (0, p8)] [] m74 Q
                  refine zw_42 zr_14_99 ?_
                  refine zw_7 zr_14_120 rfl ?_
                  refine zw_3 zr_14_121 rfl ?_
                  refine zw_3 zr_14_122 rfl ?_
                  refine zw_C zr_14_123 (Or.inl rfl) zm_11 rfl rfl ⟨Nat.le_of_ble_eq_true rfl, Nat.le_of_ble_eq_true rfl, Nat.le_of_ble_eq_true rfl, rfl, by decide⟩ (by omega) (th_11 (d := d - 1) (by omega) hIm74 (a0 := f1) (a1 := p8)   (by omega) (by omega)) ?_
                  rintro _ m77 ⟨rfl, hIm77, gm77⟩
                  have hFm77 : zFr W_14 m0 m77 := hFm74.trans gm77 rfl
                  have km77_45_7 : m77 45 7 = g0 := (gm77 45 7 rfl).trans km74_45_7
                  have km77_45_6 : m77 45 6 = (p8 + 1) := (gm77 45 6 rfl).trans km74_45_6
                  show zW E (d) 14 126 [(2, 45), (0, f1), (0, i5), (0, p8)] [] m77 Q
                  refine zw_R zr_14_126 (by decide) zm_14 (v := (9, 0)) rfl ?_
                  rw [← hQ]; exact ⟨rfl, hIm77, hFm77, by omega⟩
                · intro h78
                  refine zw_7 zr_8_9 rfl ?_
                  refine zw_46r (s := 48) zr_8_10 rfl rfl rfl rfl ?_
                  refine zw_7 zr_8_13 rfl ?_
                  refine zw_46i zr_8_14 ef75 rfl rfl rfl ?_
                  refine zw_3 zr_8_17 rfl ?_
                  refine zw_49 (c := 48) (len := 50) zr_8_18 rfl rfl (by omega) (by omega) ?_
                  intro m79 em79
                  have hIm79 : zInv m79 := by rw [em79]; exact hIm74.any (by omega) rfl (by decide) (by decide)
                  have hFm79 : zFr W_14 m0 m79 := by rw [em79]; exact hFm74.any rfl
                  have km79_45_7 : m79 45 7 = g0 := by rw [em79, zUp_ne (by omega)]; exact km74_45_7
                  have km79_45_6 : m79 45 6 = (p8 + 1) := by rw [em79, zUp_ne (by omega)]; exact km74_45_6
                  have km79_45_8 : m79 45 8 = f75 := by rw [em79, zUp_ne (by omega)]; exact ef75
                  clear em79
                  refine zw_7 zr_8_19 rfl ?_
                  refine zw_43 zr_8_20 rfl ?_
                  refine zw_46i zr_8_21 km79_45_8 rfl rfl rfl ?_
                  refine zw_push zr_8_24 ?_
                  refine zw_16 zr_8_25 (by omega) ?_
                  refine zw_47 (c := 45) zr_8_26 rfl ⟨rfl, by decide, rfl⟩ ?_
                  intro m80 em80
                  have hIm80 : zInv m80 := by rw [em80]; exact hIm79.bd (r := 45) (k := 8) (lo := 0) (hi := 50) rfl (by omega) (by decide) (by decide) (by decide)
                  have hFm80 : zFr W_14 m0 m80 := by rw [em80]; exact hFm79.up rfl
                  have km80_45_7 : m80 45 7 = g0 := by rw [em80, zUp_ne (by omega)]; exact km79_45_7
                  have km80_45_6 : m80 45 6 = (p8 + 1) := by rw [em80, zUp_ne (by omega)]; exact km79_45_6
                  have km80_45_8 : m80 45 8 = (f75 + 1) := by rw [em80]; exact zUp_eq _ _ _ _
                  clear em80
                  refine zw_R zr_8_29 (by decide) zm_8 (v := (9, 0)) rfl ?_
                  rw [← hQ1]
                  show zW E (d) 14 99 [(2, 45), (0, f1), (0, i5), (0, p8)] [] m80 Q
                  refine zw_42 zr_14_99 ?_
                  refine zw_7 zr_14_120 rfl ?_
                  refine zw_3 zr_14_121 rfl ?_
                  refine zw_3 zr_14_122 rfl ?_
                  refine zw_C zr_14_123 (Or.inl rfl) zm_11 rfl rfl ⟨Nat.le_of_ble_eq_true rfl, Nat.le_of_ble_eq_true rfl, Nat.le_of_ble_eq_true rfl, rfl, by decide⟩ (by omega) (th_11 (d := d - 1) (by omega) hIm80 (a0 := f1) (a1 := p8)   (by omega) (by omega)) ?_
                  rintro _ m81 ⟨rfl, hIm81, gm81⟩
                  have hFm81 : zFr W_14 m0 m81 := hFm80.trans gm81 rfl
                  have km81_45_7 : m81 45 7 = g0 := (gm81 45 7 rfl).trans km80_45_7
                  have km81_45_6 : m81 45 6 = (p8 + 1) := (gm81 45 6 rfl).trans km80_45_6
                  show zW E (d) 14 126 [(2, 45), (0, f1), (0, i5), (0, p8)] [] m81 Q
                  refine zw_R zr_14_126 (by decide) zm_14 (v := (9, 0)) rfl ?_
                  rw [← hQ]; exact ⟨rfl, hIm81, hFm81, by omega⟩
            by_cases h82 : i5 = 121
            · refine zw_112 (off := 67) (t := 68) zr_10_1 (by rw [h82]; rfl) rfl ?_
              refine zw_push zr_10_68 ?_
              refine zw_R zr_10_69 (by decide) zm_10 (v := (0, 4)) rfl ?_
              rw [← hQ1]
              show zW E (d) 14 79 [(2, 45), (0, f1), (0, i5), (0, p8)] [(0, 4)] m7 Q
              refine zw_push zr_14_79 ?_
              refine zw_41_1 zr_14_80 ?_ ?_
              · intro h83; omega
              · intro h84
                refine zw_7 zr_14_83 rfl ?_
                refine zw_43 zr_14_84 rfl ?_
                refine zw_46i zr_14_85 km7_45_6 rfl rfl rfl ?_
                refine zw_push zr_14_88 ?_
                refine zw_16 zr_14_89 (by omega) ?_
                refine zw_47 (c := 45) zr_14_90 rfl ⟨rfl, by decide, rfl⟩ ?_
                intro m85 em85
                have hIm85 : zInv m85 := by rw [em85]; exact hIm7.bd (r := 45) (k := 6) (lo := 0) (hi := 50) rfl (by omega) (by decide) (by decide) (by decide)
                have hFm85 : zFr W_14 m0 m85 := by rw [em85]; exact hFm7.up rfl
                have km85_45_7 : m85 45 7 = g0 := by rw [em85, zUp_ne (by omega)]; exact km7_45_7
                have km85_45_6 : m85 45 6 = (p8 + 1) := by rw [em85]; exact zUp_eq _ _ _ _
                clear em85
                refine zw_7 zr_14_93 rfl ?_
                refine zw_3 zr_14_94 rfl ?_
                refine zw_38 zr_14_95 (by omega) ?_
                refine zw_C zr_14_96 (Or.inl rfl) zm_8 rfl rfl ⟨Nat.le_of_ble_eq_true rfl, Nat.le_of_ble_eq_true rfl, Nat.le_of_ble_eq_true rfl, rfl, by decide⟩ (by omega) (P := (fun v m' => zW E (d) 14 99 [(2, 45), (0, f1), (0, i5), (0, p8)] (if v.1 = 9 then [] else v :: []) m' Q)) ?_ (fun _ _ h => h)
                generalize hQ1 : (fun v m' => zW E (d) 14 99 [(2, 45), (0, f1), (0, i5), (0, p8)] (if v.1 = 9 then [] else v :: []) m' Q) = Q1
                show zW E (d - 1) 8 0 [(2, 45), (0, (-i5))] [] m85 Q1
                refine zw_7 zr_8_0 rfl ?_
                obtain ⟨f86, ef86⟩ : ∃ v, m85 45 8 = v := ⟨_, rfl⟩
                have bf86 := ib_45_8 hIm85
                rw [ef86] at bf86
                refine zw_46i zr_8_1 ef86 rfl rfl rfl ?_
                refine zw_push zr_8_4 ?_
                refine zw_41_3 zr_8_6 ?_ ?_
                · intro h87
                  refine zw_R zr_8_29 (by decide) zm_8 (v := (9, 0)) rfl ?_
                  rw [← hQ1]
                  show zW E (d) 14 99 [(2, 45), (0, f1), (0, i5), (0, p8)] [] m85 Q
                  refine zw_42 zr_14_99 ?_
                  refine zw_7 zr_14_120 rfl ?_
                  refine zw_3 zr_14_121 rfl ?_
                  refine zw_3 zr_14_122 rfl ?_
                  refine zw_C zr_14_123 (Or.inl rfl) zm_11 rfl rfl ⟨Nat.le_of_ble_eq_true rfl, Nat.le_of_ble_eq_true rfl, Nat.le_of_ble_eq_true rfl, rfl, by decide⟩ (by omega) (th_11 (d := d - 1) (by omega) hIm85 (a0 := f1) (a1 := p8)   (by omega) (by omega)) ?_
                  rintro _ m88 ⟨rfl, hIm88, gm88⟩
                  have hFm88 : zFr W_14 m0 m88 := hFm85.trans gm88 rfl
                  have km88_45_7 : m88 45 7 = g0 := (gm88 45 7 rfl).trans km85_45_7
                  have km88_45_6 : m88 45 6 = (p8 + 1) := (gm88 45 6 rfl).trans km85_45_6
                  show zW E (d) 14 126 [(2, 45), (0, f1), (0, i5), (0, p8)] [] m88 Q
                  refine zw_R zr_14_126 (by decide) zm_14 (v := (9, 0)) rfl ?_
                  rw [← hQ]; exact ⟨rfl, hIm88, hFm88, by omega⟩
                · intro h89
                  refine zw_7 zr_8_9 rfl ?_
                  refine zw_46r (s := 48) zr_8_10 rfl rfl rfl rfl ?_
                  refine zw_7 zr_8_13 rfl ?_
                  refine zw_46i zr_8_14 ef86 rfl rfl rfl ?_
                  refine zw_3 zr_8_17 rfl ?_
                  refine zw_49 (c := 48) (len := 50) zr_8_18 rfl rfl (by omega) (by omega) ?_
                  intro m90 em90
                  have hIm90 : zInv m90 := by rw [em90]; exact hIm85.any (by omega) rfl (by decide) (by decide)
                  have hFm90 : zFr W_14 m0 m90 := by rw [em90]; exact hFm85.any rfl
                  have km90_45_7 : m90 45 7 = g0 := by rw [em90, zUp_ne (by omega)]; exact km85_45_7
                  have km90_45_6 : m90 45 6 = (p8 + 1) := by rw [em90, zUp_ne (by omega)]; exact km85_45_6
                  have km90_45_8 : m90 45 8 = f86 := by rw [em90, zUp_ne (by omega)]; exact ef86
                  clear em90
                  refine zw_7 zr_8_19 rfl ?_
                  refine zw_43 zr_8_20 rfl ?_
                  refine zw_46i zr_8_21 km90_45_8 rfl rfl rfl ?_
                  refine zw_push zr_8_24 ?_
                  refine zw_16 zr_8_25 (by omega) ?_
                  refine zw_47 (c := 45) zr_8_26 rfl ⟨rfl, by decide, rfl⟩ ?_
                  intro m91 em91
                  have hIm91 : zInv m91 := by rw [em91]; exact hIm90.bd (r := 45) (k := 8) (lo := 0) (hi := 50) rfl (by omega) (by decide) (by decide) (by decide)
                  have hFm91 : zFr W_14 m0 m91 := by rw [em91]; exact hFm90.up rfl
                  have km91_45_7 : m91 45 7 = g0 := by rw [em91, zUp_ne (by omega)]; exact km90_45_7
                  have km91_45_6 : m91 45 6 = (p8 + 1) := by rw [em91, zUp_ne (by omega)]; exact km90_45_6
                  have km91_45_8 : m91 45 8 = (f86 + 1) := by rw [em91]; exact zUp_eq _ _ _ _
                  clear em91
                  refine zw_R zr_8_29 (by decide) zm_8 (v := (9, 0)) rfl ?_
                  rw [← hQ1]
                  show zW E (d) 14 99 [(2, 45), (0, f1), (0, i5), (0, p8)] [] m91 Q
                  refine zw_42 zr_14_99 ?_
                  refine zw_7 zr_14_120 rfl ?_
                  refine zw_3 zr_14_121 rfl ?_
                  refine zw_3 zr_14_122 rfl ?_
                  refine zw_C zr_14_123 (Or.inl rfl) zm_11 rfl rfl ⟨Nat.le_of_ble_eq_true rfl, Nat.le_of_ble_eq_true rfl, Nat.le_of_ble_eq_true rfl, rfl, by decide⟩ (by omega) (th_11 (d := d - 1) (by omega) hIm91 (a0 := f1) (a1 := p8)   (by omega) (by omega)) ?_
                  rintro _ m92 ⟨rfl, hIm92, gm92⟩
                  have hFm92 : zFr W_14 m0 m92 := hFm91.trans gm92 rfl
                  have km92_45_7 : m92 45 7 = g0 := (gm92 45 7 rfl).trans km91_45_7
                  have km92_45_6 : m92 45 6 = (p8 + 1) := (gm92 45 6 rfl).trans km91_45_6
                  show zW E (d) 14 126 [(2, 45), (0, f1), (0, i5), (0, p8)] [] m92 Q
                  refine zw_R zr_14_126 (by decide) zm_14 (v := (9, 0)) rfl ?_
                  rw [← hQ]; exact ⟨rfl, hIm92, hFm92, by omega⟩
            refine zw_112 (off := 71) (t := 72) zr_10_1 (zlsw_df (by simp; omega)) rfl ?_
            refine zw_push zr_10_72 ?_
            refine zw_R zr_10_73 (by decide) zm_10 (v := (0, (-1))) rfl ?_
            rw [← hQ1]
            show zW E (d) 14 79 [(2, 45), (0, f1), (0, i5), (0, p8)] [(0, (-1))] m7 Q
            refine zw_push zr_14_79 ?_
            refine zw_41_1 zr_14_80 ?_ ?_
            · intro h93
              refine zw_3 zr_14_102 rfl ?_
              refine zw_push zr_14_103 ?_
              refine zw_41_4 zr_14_105 ?_ ?_
              · intro h94
                refine zw_7 zr_14_115 rfl ?_
                refine zw_push zr_14_116 ?_
                refine zw_C zr_14_117 (Or.inl rfl) zm_5 rfl rfl ⟨Nat.le_of_ble_eq_true rfl, Nat.le_of_ble_eq_true rfl, Nat.le_of_ble_eq_true rfl, rfl, by decide⟩ (by omega) (P := (fun v m' => zW E (d) 14 120 [(2, 45), (0, f1), (0, i5), (0, p8)] (if v.1 = 9 then [] else v :: []) m' Q)) ?_ (fun _ _ h => h)
                generalize hQ1 : (fun v m' => zW E (d) 14 120 [(2, 45), (0, f1), (0, i5), (0, p8)] (if v.1 = 9 then [] else v :: []) m' Q) = Q1
                show zW E (d - 1) 5 0 [(2, 45), (0, 1)] [] m7 Q1
                refine zw_7 zr_5_0 rfl ?_
                obtain ⟨f95, ef95⟩ : ∃ v, m7 45 1 = v := ⟨_, rfl⟩
                have bf95 := hIm7.fi (c := 45) (k := 1) rfl
                rw [ef95] at bf95
                refine zw_46i zr_5_1 ef95 rfl rfl rfl ?_
                refine zw_push zr_5_4 ?_
                refine zw_41_4 zr_5_5 ?_ ?_
                · intro h96
                  refine zw_R zr_5_21 (by decide) zm_5 (v := (9, 0)) rfl ?_
                  rw [← hQ1]
                  show zW E (d) 14 120 [(2, 45), (0, f1), (0, i5), (0, p8)] [] m7 Q
                  refine zw_7 zr_14_120 rfl ?_
                  refine zw_3 zr_14_121 rfl ?_
                  refine zw_3 zr_14_122 rfl ?_
                  refine zw_C zr_14_123 (Or.inl rfl) zm_11 rfl rfl ⟨Nat.le_of_ble_eq_true rfl, Nat.le_of_ble_eq_true rfl, Nat.le_of_ble_eq_true rfl, rfl, by decide⟩ (by omega) (th_11 (d := d - 1) (by omega) hIm7 (a0 := f1) (a1 := p8)   (by omega) (by omega)) ?_
                  rintro _ m97 ⟨rfl, hIm97, gm97⟩
                  have hFm97 : zFr W_14 m0 m97 := hFm7.trans gm97 rfl
                  have km97_45_7 : m97 45 7 = g0 := (gm97 45 7 rfl).trans km7_45_7
                  have km97_45_6 : m97 45 6 = p8 := (gm97 45 6 rfl).trans km7_45_6
                  have km97_45_1 : m97 45 1 = f95 := (gm97 45 1 rfl).trans ef95
                  show zW E (d) 14 126 [(2, 45), (0, f1), (0, i5), (0, p8)] [] m97 Q
                  refine zw_R zr_14_126 (by decide) zm_14 (v := (9, 0)) rfl ?_
                  rw [← hQ]; exact ⟨rfl, hIm97, hFm97, by omega⟩
                · intro h98
                  refine zw_7 zr_5_8 rfl ?_
                  refine zw_7 zr_5_9 rfl ?_
                  refine zw_46i zr_5_10 km7_45_6 rfl rfl rfl ?_
                  refine zw_push zr_5_13 ?_
                  refine zw_18 zr_5_15 (by omega) ?_
                  refine zw_3 zr_5_16 rfl ?_
                  refine zw_16 zr_5_17 (by omega) ?_
                  refine zw_47 (c := 45) zr_5_18 rfl ⟨rfl, by decide, rfl⟩ ?_
                  intro m99 em99
                  have hIm99 : zInv m99 := by rw [em99]; exact hIm7.any (by omega) rfl (by decide) (by decide)
                  have hFm99 : zFr W_14 m0 m99 := by rw [em99]; exact hFm7.up rfl
                  have km99_45_7 : m99 45 7 = g0 := by rw [em99, zUp_ne (by omega)]; exact km7_45_7
                  have km99_45_6 : m99 45 6 = p8 := by rw [em99, zUp_ne (by omega)]; exact km7_45_6
                  have km99_45_1 : m99 45 1 = ((p8 * 10) + 1) := by rw [em99]; exact zUp_eq _ _ _ _
                  clear em99
                  refine zw_R zr_5_21 (by decide) zm_5 (v := (9, 0)) rfl ?_
                  rw [← hQ1]
                  show zW E (d) 14 120 [(2, 45), (0, f1), (0, i5), (0, p8)] [] m99 Q
                  refine zw_7 zr_14_120 rfl ?_
                  refine zw_3 zr_14_121 rfl ?_
                  refine zw_3 zr_14_122 rfl ?_
                  refine zw_C zr_14_123 (Or.inl rfl) zm_11 rfl rfl ⟨Nat.le_of_ble_eq_true rfl, Nat.le_of_ble_eq_true rfl, Nat.le_of_ble_eq_true rfl, rfl, by decide⟩ (by omega) (th_11 (d := d - 1) (by omega) hIm99 (a0 := f1) (a1 := p8)   (by omega) (by omega)) ?_
                  rintro _ m100 ⟨rfl, hIm100, gm100⟩
                  have hFm100 : zFr W_14 m0 m100 := hFm99.trans gm100 rfl
                  have km100_45_7 : m100 45 7 = g0 := (gm100 45 7 rfl).trans km99_45_7
                  have km100_45_6 : m100 45 6 = p8 := (gm100 45 6 rfl).trans km99_45_6
                  have km100_45_1 : m100 45 1 = ((p8 * 10) + 1) := (gm100 45 1 rfl).trans km99_45_1
                  show zW E (d) 14 126 [(2, 45), (0, f1), (0, i5), (0, p8)] [] m100 Q
                  refine zw_R zr_14_126 (by decide) zm_14 (v := (9, 0)) rfl ?_
                  rw [← hQ]; exact ⟨rfl, hIm100, hFm100, by omega⟩
              · intro h101; omega
            · intro h102; omega
          · intro h103
            refine zw_7 zr_14_68 rfl ?_
            refine zw_C zr_14_69 (Or.inl rfl) zm_9 rfl rfl ⟨Nat.le_of_ble_eq_true rfl, Nat.le_of_ble_eq_true rfl, Nat.le_of_ble_eq_true rfl, rfl, by decide⟩ (by omega) (th_9 (d := d - 1) (by omega) hIm7    ) ?_
            rintro _ m104 ⟨rfl, hIm104, gm104⟩
            have hFm104 : zFr W_14 m0 m104 := hFm7.trans gm104 rfl
            have km104_45_7 : m104 45 7 = g0 := (gm104 45 7 rfl).trans km7_45_7
            show zW E (d) 14 72 [(2, 45), (0, f1), (0, i5), (0, p8)] [] m104 Q
            refine zw_42 zr_14_72 ?_
            refine zw_7 zr_14_120 rfl ?_
            refine zw_3 zr_14_121 rfl ?_
            refine zw_3 zr_14_122 rfl ?_
            refine zw_C zr_14_123 (Or.inl rfl) zm_11 rfl rfl ⟨Nat.le_of_ble_eq_true rfl, Nat.le_of_ble_eq_true rfl, Nat.le_of_ble_eq_true rfl, rfl, by decide⟩ (by omega) (th_11 (d := d - 1) (by omega) hIm104 (a0 := f1) (a1 := p8)   (by omega) (by omega)) ?_
            rintro _ m105 ⟨rfl, hIm105, gm105⟩
            have hFm105 : zFr W_14 m0 m105 := hFm104.trans gm105 rfl
            have km105_45_7 : m105 45 7 = g0 := (gm105 45 7 rfl).trans km104_45_7
            show zW E (d) 14 126 [(2, 45), (0, f1), (0, i5), (0, p8)] [] m105 Q
            refine zw_R zr_14_126 (by decide) zm_14 (v := (9, 0)) rfl ?_
            rw [← hQ]; exact ⟨rfl, hIm105, hFm105, by omega⟩
      · intro h106
        refine zw_3 zr_14_18 rfl ?_
        refine zw_push zr_14_19 ?_
        refine zw_41_1 zr_14_21 ?_ ?_
        · intro h107
          refine zw_7 zr_14_30 rfl ?_
          refine zw_43 zr_14_31 rfl ?_
          refine zw_46i zr_14_32 km7_45_6 rfl rfl rfl ?_
          refine zw_push zr_14_35 ?_
          refine zw_16 zr_14_36 (by omega) ?_
          refine zw_47 (c := 45) zr_14_37 rfl ⟨rfl, by decide, rfl⟩ ?_
          intro m108 em108
          have hIm108 : zInv m108 := by rw [em108]; exact hIm7.bd (r := 45) (k := 6) (lo := 0) (hi := 50) rfl (by omega) (by decide) (by decide) (by decide)
          have hFm108 : zFr W_14 m0 m108 := by rw [em108]; exact hFm7.up rfl
          have km108_45_7 : m108 45 7 = g0 := by rw [em108, zUp_ne (by omega)]; exact km7_45_7
          have km108_45_6 : m108 45 6 = (p8 + 1) := by rw [em108]; exact zUp_eq _ _ _ _
          clear em108
          refine zw_7 zr_14_40 rfl ?_
          refine zw_C zr_14_41 (Or.inl rfl) zm_6 rfl rfl ⟨Nat.le_of_ble_eq_true rfl, Nat.le_of_ble_eq_true rfl, Nat.le_of_ble_eq_true rfl, rfl, by decide⟩ (by omega) (th_6 (d := d - 1) (by omega) hIm108    ) ?_
          rintro _ m109 ⟨r110, rfl, hr110a, hr110b, hIm109, gm109, po0_r110⟩
          have hFm109 : zFr W_14 m0 m109 := hFm108.trans gm109 rfl
          have km109_45_7 : m109 45 7 = g0 := (gm109 45 7 rfl).trans km108_45_7
          obtain ⟨f111, ef111⟩ : ∃ v, m109 45 6 = v := ⟨_, rfl⟩
          have bf111 := ib_45_6 hIm109
          rw [ef111] at bf111
          show zW E (d) 14 44 [(2, 45), (0, f1), (0, i5), (0, i6)] [(0, r110)] m109 Q
          refine zw_9 (L' := [(2, 45), (0, f1), (0, r110), (0, i6)]) zr_14_44 (Nat.le_of_ble_eq_true rfl) rfl ?_
          refine zw_15 (c := 1) (L' := [(2, 45), (0, f1), (0, r110), (0, (i6 + 1))]) zr_14_45 rfl (by decide) (by omega) rfl ?_
          refine zw_42 zr_14_48 ?_
          exact zw_less (L := [(2, 45), (0, f1), (0, r110), (0, (i6 + 1))]) ⟨Or.inr rfl, Or.inr rfl, Or.inr rfl, Or.inr rfl, trivial⟩ (ihlp12_9 (r110) ((i6 + 1)) (f111) m109 hIm109 hFm109  km109_45_7 ef111 (by omega) (by omega) (by omega) (by omega) (by omega) (by omega) (by omega) (by omega))
        · intro h112
          refine zw_3 zr_14_24 rfl ?_
          refine zw_push zr_14_25 ?_
          refine zw_41_4 zr_14_27 ?_ ?_
          · intro h113
            refine zw_7 zr_14_51 rfl ?_
            refine zw_46i zr_14_52 km7_45_6 rfl rfl rfl ?_
            refine zw_9 (L' := [(2, 45), (0, f1), (0, i5), (0, p8)]) zr_14_55 (Nat.le_of_ble_eq_true rfl) rfl ?_
            refine zw_3 zr_14_56 rfl ?_
            refine zw_push zr_14_57 ?_
            refine zw_41_0 zr_14_59 ?_ ?_
            · intro h114
              refine zw_3 zr_14_75 rfl ?_
              refine zw_C zr_14_76 (Or.inr rfl) zm_10 rfl rfl ⟨Nat.le_of_ble_eq_true rfl, Nat.le_of_ble_eq_true rfl, Nat.le_of_ble_eq_true rfl, rfl, by decide⟩ (by omega) (P := (fun v m' => zW E (d) 14 79 [(2, 45), (0, f1), (0, i5), (0, p8)] (if v.1 = 9 then [] else v :: []) m' Q)) ?_ (fun _ _ h => h)
              generalize hQ1 : (fun v m' => zW E (d) 14 79 [(2, 45), (0, f1), (0, i5), (0, p8)] (if v.1 = 9 then [] else v :: []) m' Q) = Q1
              show zW E (d - 1) 10 0 [(0, i5)] [] m7 Q1
              refine zw_3 zr_10_0 rfl ?_
              refine zw_112 (off := 71) (t := 72) zr_10_1 (zlsw_df (by simp; omega)) rfl ?_
              refine zw_push zr_10_72 ?_
              refine zw_R zr_10_73 (by decide) zm_10 (v := (0, (-1))) rfl ?_
              rw [← hQ1]
              show zW E (d) 14 79 [(2, 45), (0, f1), (0, i5), (0, p8)] [(0, (-1))] m7 Q
              refine zw_push zr_14_79 ?_
              refine zw_41_1 zr_14_80 ?_ ?_
              · intro h115
                refine zw_3 zr_14_102 rfl ?_
                refine zw_push zr_14_103 ?_
                refine zw_41_4 zr_14_105 ?_ ?_
                · intro h116
                  refine zw_7 zr_14_115 rfl ?_
                  refine zw_push zr_14_116 ?_
                  refine zw_C zr_14_117 (Or.inl rfl) zm_5 rfl rfl ⟨Nat.le_of_ble_eq_true rfl, Nat.le_of_ble_eq_true rfl, Nat.le_of_ble_eq_true rfl, rfl, by decide⟩ (by omega) (P := (fun v m' => zW E (d) 14 120 [(2, 45), (0, f1), (0, i5), (0, p8)] (if v.1 = 9 then [] else v :: []) m' Q)) ?_ (fun _ _ h => h)
                  generalize hQ1 : (fun v m' => zW E (d) 14 120 [(2, 45), (0, f1), (0, i5), (0, p8)] (if v.1 = 9 then [] else v :: []) m' Q) = Q1
                  show zW E (d - 1) 5 0 [(2, 45), (0, 1)] [] m7 Q1
                  refine zw_7 zr_5_0 rfl ?_
                  obtain ⟨f117, ef117⟩ : ∃ v, m7 45 1 = v := ⟨_, rfl⟩
                  have bf117 := hIm7.fi (c := 45) (k := 1) rfl
                  rw [ef117] at bf117
                  refine zw_46i zr_5_1 ef117 rfl rfl rfl ?_
                  refine zw_push zr_5_4 ?_
                  refine zw_41_4 zr_5_5 ?_ ?_
                  · intro h118
                    refine zw_R zr_5_21 (by decide) zm_5 (v := (9, 0)) rfl ?_
                    rw [← hQ1]
                    show zW E (d) 14 120 [(2, 45), (0, f1), (0, i5), (0, p8)] [] m7 Q
                    refine zw_7 zr_14_120 rfl ?_
                    refine zw_3 zr_14_121 rfl ?_
                    refine zw_3 zr_14_122 rfl ?_
                    refine zw_C zr_14_123 (Or.inl rfl) zm_11 rfl rfl ⟨Nat.le_of_ble_eq_true rfl, Nat.le_of_ble_eq_true rfl, Nat.le_of_ble_eq_true rfl, rfl, by decide⟩ (by omega) (th_11 (d := d - 1) (by omega) hIm7 (a0 := f1) (a1 := p8)   (by omega) (by omega)) ?_
                    rintro _ m119 ⟨rfl, hIm119, gm119⟩
                    have hFm119 : zFr W_14 m0 m119 := hFm7.trans gm119 rfl
                    have km119_45_7 : m119 45 7 = g0 := (gm119 45 7 rfl).trans km7_45_7
                    have km119_45_6 : m119 45 6 = p8 := (gm119 45 6 rfl).trans km7_45_6
                    have km119_45_1 : m119 45 1 = f117 := (gm119 45 1 rfl).trans ef117
                    show zW E (d) 14 126 [(2, 45), (0, f1), (0, i5), (0, p8)] [] m119 Q
                    refine zw_R zr_14_126 (by decide) zm_14 (v := (9, 0)) rfl ?_
                    rw [← hQ]; exact ⟨rfl, hIm119, hFm119, by omega⟩
                  · intro h120
                    refine zw_7 zr_5_8 rfl ?_
                    refine zw_7 zr_5_9 rfl ?_
                    refine zw_46i zr_5_10 km7_45_6 rfl rfl rfl ?_
                    refine zw_push zr_5_13 ?_
                    refine zw_18 zr_5_15 (by omega) ?_
                    refine zw_3 zr_5_16 rfl ?_
                    refine zw_16 zr_5_17 (by omega) ?_
                    refine zw_47 (c := 45) zr_5_18 rfl ⟨rfl, by decide, rfl⟩ ?_
                    intro m121 em121
                    have hIm121 : zInv m121 := by rw [em121]; exact hIm7.any (by omega) rfl (by decide) (by decide)
                    have hFm121 : zFr W_14 m0 m121 := by rw [em121]; exact hFm7.up rfl
                    have km121_45_7 : m121 45 7 = g0 := by rw [em121, zUp_ne (by omega)]; exact km7_45_7
                    have km121_45_6 : m121 45 6 = p8 := by rw [em121, zUp_ne (by omega)]; exact km7_45_6
                    have km121_45_1 : m121 45 1 = ((p8 * 10) + 1) := by rw [em121]; exact zUp_eq _ _ _ _
                    clear em121
                    refine zw_R zr_5_21 (by decide) zm_5 (v := (9, 0)) rfl ?_
                    rw [← hQ1]
                    show zW E (d) 14 120 [(2, 45), (0, f1), (0, i5), (0, p8)] [] m121 Q
                    refine zw_7 zr_14_120 rfl ?_
                    refine zw_3 zr_14_121 rfl ?_
                    refine zw_3 zr_14_122 rfl ?_
                    refine zw_C zr_14_123 (Or.inl rfl) zm_11 rfl rfl ⟨Nat.le_of_ble_eq_true rfl, Nat.le_of_ble_eq_true rfl, Nat.le_of_ble_eq_true rfl, rfl, by decide⟩ (by omega) (th_11 (d := d - 1) (by omega) hIm121 (a0 := f1) (a1 := p8)   (by omega) (by omega)) ?_
                    rintro _ m122 ⟨rfl, hIm122, gm122⟩
                    have hFm122 : zFr W_14 m0 m122 := hFm121.trans gm122 rfl
                    have km122_45_7 : m122 45 7 = g0 := (gm122 45 7 rfl).trans km121_45_7
                    have km122_45_6 : m122 45 6 = p8 := (gm122 45 6 rfl).trans km121_45_6
                    have km122_45_1 : m122 45 1 = ((p8 * 10) + 1) := (gm122 45 1 rfl).trans km121_45_1
                    show zW E (d) 14 126 [(2, 45), (0, f1), (0, i5), (0, p8)] [] m122 Q
                    refine zw_R zr_14_126 (by decide) zm_14 (v := (9, 0)) rfl ?_
                    rw [← hQ]; exact ⟨rfl, hIm122, hFm122, by omega⟩
                · intro h123
                  refine zw_7 zr_14_108 rfl ?_
                  refine zw_C zr_14_109 (Or.inl rfl) zm_12 rfl rfl ⟨Nat.le_of_ble_eq_true rfl, Nat.le_of_ble_eq_true rfl, Nat.le_of_ble_eq_true rfl, rfl, by decide⟩ (by omega) (ih12 m7 (g0) (p8) (by omega) hIm7 km7_45_7 km7_45_6 (by omega)) ?_
                  rintro _ m124 ⟨rfl, hIm124, gm124, po0_m124⟩
                  have hFm124 : zFr W_14 m0 m124 := hFm7.trans gm124 rfl
                  show zW E (d) 14 112 [(2, 45), (0, f1), (0, i5), (0, p8)] [] m124 Q
                  refine zw_42 zr_14_112 ?_
                  refine zw_7 zr_14_120 rfl ?_
                  refine zw_3 zr_14_121 rfl ?_
                  refine zw_3 zr_14_122 rfl ?_
                  refine zw_C zr_14_123 (Or.inl rfl) zm_11 rfl rfl ⟨Nat.le_of_ble_eq_true rfl, Nat.le_of_ble_eq_true rfl, Nat.le_of_ble_eq_true rfl, rfl, by decide⟩ (by omega) (th_11 (d := d - 1) (by omega) hIm124 (a0 := f1) (a1 := p8)   (by omega) (by omega)) ?_
                  rintro _ m125 ⟨rfl, hIm125, gm125⟩
                  have hFm125 : zFr W_14 m0 m125 := hFm124.trans gm125 rfl
                  have km125_45_7 : m125 45 7 = g0 := (gm125 45 7 rfl).trans po0_m124
                  show zW E (d) 14 126 [(2, 45), (0, f1), (0, i5), (0, p8)] [] m125 Q
                  refine zw_R zr_14_126 (by decide) zm_14 (v := (9, 0)) rfl ?_
                  rw [← hQ]; exact ⟨rfl, hIm125, hFm125, by omega⟩
              · intro h126; omega
            · intro h127
              refine zw_3 zr_14_62 rfl ?_
              refine zw_push zr_14_63 ?_
              refine zw_41_2 zr_14_65 ?_ ?_
              · intro h128
                refine zw_3 zr_14_75 rfl ?_
                refine zw_C zr_14_76 (Or.inr rfl) zm_10 rfl rfl ⟨Nat.le_of_ble_eq_true rfl, Nat.le_of_ble_eq_true rfl, Nat.le_of_ble_eq_true rfl, rfl, by decide⟩ (by omega) (P := (fun v m' => zW E (d) 14 79 [(2, 45), (0, f1), (0, i5), (0, p8)] (if v.1 = 9 then [] else v :: []) m' Q)) ?_ (fun _ _ h => h)
                generalize hQ1 : (fun v m' => zW E (d) 14 79 [(2, 45), (0, f1), (0, i5), (0, p8)] (if v.1 = 9 then [] else v :: []) m' Q) = Q1
                show zW E (d - 1) 10 0 [(0, i5)] [] m7 Q1
                refine zw_3 zr_10_0 rfl ?_
                by_cases h129 : i5 = 101
                · refine zw_112 (off := 63) (t := 64) zr_10_1 (by rw [h129]; rfl) rfl ?_
                  refine zw_push zr_10_64 ?_
                  refine zw_R zr_10_65 (by decide) zm_10 (v := (0, 2)) rfl ?_
                  rw [← hQ1]
                  show zW E (d) 14 79 [(2, 45), (0, f1), (0, i5), (0, p8)] [(0, 2)] m7 Q
                  refine zw_push zr_14_79 ?_
                  refine zw_41_1 zr_14_80 ?_ ?_
                  · intro h130; omega
                  · intro h131
                    refine zw_7 zr_14_83 rfl ?_
                    refine zw_43 zr_14_84 rfl ?_
                    refine zw_46i zr_14_85 km7_45_6 rfl rfl rfl ?_
                    refine zw_push zr_14_88 ?_
                    refine zw_16 zr_14_89 (by omega) ?_
                    refine zw_47 (c := 45) zr_14_90 rfl ⟨rfl, by decide, rfl⟩ ?_
                    intro m132 em132
                    have hIm132 : zInv m132 := by rw [em132]; exact hIm7.bd (r := 45) (k := 6) (lo := 0) (hi := 50) rfl (by omega) (by decide) (by decide) (by decide)
                    have hFm132 : zFr W_14 m0 m132 := by rw [em132]; exact hFm7.up rfl
                    have km132_45_7 : m132 45 7 = g0 := by rw [em132, zUp_ne (by omega)]; exact km7_45_7
                    have km132_45_6 : m132 45 6 = (p8 + 1) := by rw [em132]; exact zUp_eq _ _ _ _
                    clear em132
                    refine zw_7 zr_14_93 rfl ?_
                    refine zw_3 zr_14_94 rfl ?_
                    refine zw_38 zr_14_95 (by omega) ?_
                    refine zw_C zr_14_96 (Or.inl rfl) zm_8 rfl rfl ⟨Nat.le_of_ble_eq_true rfl, Nat.le_of_ble_eq_true rfl, Nat.le_of_ble_eq_true rfl, rfl, by decide⟩ (by omega) (P := (fun v m' => zW E (d) 14 99 [(2, 45), (0, f1), (0, i5), (0, p8)] (if v.1 = 9 then [] else v :: []) m' Q)) ?_ (fun _ _ h => h)
                    generalize hQ1 : (fun v m' => zW E (d) 14 99 [(2, 45), (0, f1), (0, i5), (0, p8)] (if v.1 = 9 then [] else v :: []) m' Q) = Q1
                    show zW E (d - 1) 8 0 [(2, 45), (0, (-i5))] [] m132 Q1
                    refine zw_7 zr_8_0 rfl ?_
                    obtain ⟨f133, ef133⟩ : ∃ v, m132 45 8 = v := ⟨_, rfl⟩
                    have bf133 := ib_45_8 hIm132
                    rw [ef133] at bf133
                    refine zw_46i zr_8_1 ef133 rfl rfl rfl ?_
                    refine zw_push zr_8_4 ?_
                    refine zw_41_3 zr_8_6 ?_ ?_
                    · intro h134
                      refine zw_R zr_8_29 (by decide) zm_8 (v := (9, 0)) rfl ?_
                      rw [← hQ1]
                      show zW E (d) 14 99 [(2, 45), (0, f1), (0, i5), (0, p8)] [] m132 Q
                      refine zw_42 zr_14_99 ?_
                      refine zw_7 zr_14_120 rfl ?_
                      refine zw_3 zr_14_121 rfl ?_
                      refine zw_3 zr_14_122 rfl ?_
                      refine zw_C zr_14_123 (Or.inl rfl) zm_11 rfl rfl ⟨Nat.le_of_ble_eq_true rfl, Nat.le_of_ble_eq_true rfl, Nat.le_of_ble_eq_true rfl, rfl, by decide⟩ (by omega) (th_11 (d := d - 1) (by omega) hIm132 (a0 := f1) (a1 := p8)   (by omega) (by omega)) ?_
                      rintro _ m135 ⟨rfl, hIm135, gm135⟩
                      have hFm135 : zFr W_14 m0 m135 := hFm132.trans gm135 rfl
                      have km135_45_7 : m135 45 7 = g0 := (gm135 45 7 rfl).trans km132_45_7
                      have km135_45_6 : m135 45 6 = (p8 + 1) := (gm135 45 6 rfl).trans km132_45_6
                      show zW E (d) 14 126 [(2, 45), (0, f1), (0, i5), (0, p8)] [] m135 Q
                      refine zw_R zr_14_126 (by decide) zm_14 (v := (9, 0)) rfl ?_
                      rw [← hQ]; exact ⟨rfl, hIm135, hFm135, by omega⟩
                    · intro h136
                      refine zw_7 zr_8_9 rfl ?_
                      refine zw_46r (s := 48) zr_8_10 rfl rfl rfl rfl ?_
                      refine zw_7 zr_8_13 rfl ?_
                      refine zw_46i zr_8_14 ef133 rfl rfl rfl ?_
                      refine zw_3 zr_8_17 rfl ?_
                      refine zw_49 (c := 48) (len := 50) zr_8_18 rfl rfl (by omega) (by omega) ?_
                      intro m137 em137
                      have hIm137 : zInv m137 := by rw [em137]; exact hIm132.any (by omega) rfl (by decide) (by decide)
                      have hFm137 : zFr W_14 m0 m137 := by rw [em137]; exact hFm132.any rfl
                      have km137_45_7 : m137 45 7 = g0 := by rw [em137, zUp_ne (by omega)]; exact km132_45_7
                      have km137_45_6 : m137 45 6 = (p8 + 1) := by rw [em137, zUp_ne (by omega)]; exact km132_45_6
                      have km137_45_8 : m137 45 8 = f133 := by rw [em137, zUp_ne (by omega)]; exact ef133
                      clear em137
                      refine zw_7 zr_8_19 rfl ?_
                      refine zw_43 zr_8_20 rfl ?_
                      refine zw_46i zr_8_21 km137_45_8 rfl rfl rfl ?_
                      refine zw_push zr_8_24 ?_
                      refine zw_16 zr_8_25 (by omega) ?_
                      refine zw_47 (c := 45) zr_8_26 rfl ⟨rfl, by decide, rfl⟩ ?_
                      intro m138 em138
                      have hIm138 : zInv m138 := by rw [em138]; exact hIm137.bd (r := 45) (k := 8) (lo := 0) (hi := 50) rfl (by omega) (by decide) (by decide) (by decide)
                      have hFm138 : zFr W_14 m0 m138 := by rw [em138]; exact hFm137.up rfl
                      have km138_45_7 : m138 45 7 = g0 := by rw [em138, zUp_ne (by omega)]; exact km137_45_7
                      have km138_45_6 : m138 45 6 = (p8 + 1) := by rw [em138, zUp_ne (by omega)]; exact km137_45_6
                      have km138_45_8 : m138 45 8 = (f133 + 1) := by rw [em138]; exact zUp_eq _ _ _ _
                      clear em138
                      refine zw_R zr_8_29 (by decide) zm_8 (v := (9, 0)) rfl ?_
                      rw [← hQ1]
                      show zW E (d) 14 99 [(2, 45), (0, f1), (0, i5), (0, p8)] [] m138 Q
                      refine zw_42 zr_14_99 ?_
                      refine zw_7 zr_14_120 rfl ?_
                      refine zw_3 zr_14_121 rfl ?_
                      refine zw_3 zr_14_122 rfl ?_
                      refine zw_C zr_14_123 (Or.inl rfl) zm_11 rfl rfl ⟨Nat.le_of_ble_eq_true rfl, Nat.le_of_ble_eq_true rfl, Nat.le_of_ble_eq_true rfl, rfl, by decide⟩ (by omega) (th_11 (d := d - 1) (by omega) hIm138 (a0 := f1) (a1 := p8)   (by omega) (by omega)) ?_
                      rintro _ m139 ⟨rfl, hIm139, gm139⟩
                      have hFm139 : zFr W_14 m0 m139 := hFm138.trans gm139 rfl
                      have km139_45_7 : m139 45 7 = g0 := (gm139 45 7 rfl).trans km138_45_7
                      have km139_45_6 : m139 45 6 = (p8 + 1) := (gm139 45 6 rfl).trans km138_45_6
                      show zW E (d) 14 126 [(2, 45), (0, f1), (0, i5), (0, p8)] [] m139 Q
                      refine zw_R zr_14_126 (by decide) zm_14 (v := (9, 0)) rfl ?_
                      rw [← hQ]; exact ⟨rfl, hIm139, hFm139, by omega⟩
                by_cases h140 : i5 = 103
                · refine zw_112 (off := 69) (t := 70) zr_10_1 (by rw [h140]; rfl) rfl ?_
                  refine zw_push zr_10_70 ?_
                  refine zw_R zr_10_71 (by decide) zm_10 (v := (0, 5)) rfl ?_
                  rw [← hQ1]
                  show zW E (d) 14 79 [(2, 45), (0, f1), (0, i5), (0, p8)] [(0, 5)] m7 Q
                  refine zw_push zr_14_79 ?_
                  refine zw_41_1 zr_14_80 ?_ ?_
                  · intro h141; omega
                  · intro h142
                    refine zw_7 zr_14_83 rfl ?_
                    refine zw_43 zr_14_84 rfl ?_
                    refine zw_46i zr_14_85 km7_45_6 rfl rfl rfl ?_
                    refine zw_push zr_14_88 ?_
                    refine zw_16 zr_14_89 (by omega) ?_
                    refine zw_47 (c := 45) zr_14_90 rfl ⟨rfl, by decide, rfl⟩ ?_
                    intro m143 em143
                    have hIm143 : zInv m143 := by rw [em143]; exact hIm7.bd (r := 45) (k := 6) (lo := 0) (hi := 50) rfl (by omega) (by decide) (by decide) (by decide)
                    have hFm143 : zFr W_14 m0 m143 := by rw [em143]; exact hFm7.up rfl
                    have km143_45_7 : m143 45 7 = g0 := by rw [em143, zUp_ne (by omega)]; exact km7_45_7
                    have km143_45_6 : m143 45 6 = (p8 + 1) := by rw [em143]; exact zUp_eq _ _ _ _
                    clear em143
                    refine zw_7 zr_14_93 rfl ?_
                    refine zw_3 zr_14_94 rfl ?_
                    refine zw_38 zr_14_95 (by omega) ?_
                    refine zw_C zr_14_96 (Or.inl rfl) zm_8 rfl rfl ⟨Nat.le_of_ble_eq_true rfl, Nat.le_of_ble_eq_true rfl, Nat.le_of_ble_eq_true rfl, rfl, by decide⟩ (by omega) (P := (fun v m' => zW E (d) 14 99 [(2, 45), (0, f1), (0, i5), (0, p8)] (if v.1 = 9 then [] else v :: []) m' Q)) ?_ (fun _ _ h => h)
                    generalize hQ1 : (fun v m' => zW E (d) 14 99 [(2, 45), (0, f1), (0, i5), (0, p8)] (if v.1 = 9 then [] else v :: []) m' Q) = Q1
                    show zW E (d - 1) 8 0 [(2, 45), (0, (-i5))] [] m143 Q1
                    refine zw_7 zr_8_0 rfl ?_
                    obtain ⟨f144, ef144⟩ : ∃ v, m143 45 8 = v := ⟨_, rfl⟩
                    have bf144 := ib_45_8 hIm143
                    rw [ef144] at bf144
                    refine zw_46i zr_8_1 ef144 rfl rfl rfl ?_
                    refine zw_push zr_8_4 ?_
                    refine zw_41_3 zr_8_6 ?_ ?_
                    · intro h145
                      refine zw_R zr_8_29 (by decide) zm_8 (v := (9, 0)) rfl ?_
                      rw [← hQ1]
                      show zW E (d) 14 99 [(2, 45), (0, f1), (0, i5), (0, p8)] [] m143 Q
                      refine zw_42 zr_14_99 ?_
                      refine zw_7 zr_14_120 rfl ?_
                      refine zw_3 zr_14_121 rfl ?_
                      refine zw_3 zr_14_122 rfl ?_
                      refine zw_C zr_14_123 (Or.inl rfl) zm_11 rfl rfl ⟨Nat.le_of_ble_eq_true rfl, Nat.le_of_ble_eq_true rfl, Nat.le_of_ble_eq_true rfl, rfl, by decide⟩ (by omega) (th_11 (d := d - 1) (by omega) hIm143 (a0 := f1) (a1 := p8)   (by omega) (by omega)) ?_
                      rintro _ m146 ⟨rfl, hIm146, gm146⟩
                      have hFm146 : zFr W_14 m0 m146 := hFm143.trans gm146 rfl
                      have km146_45_7 : m146 45 7 = g0 := (gm146 45 7 rfl).trans km143_45_7
                      have km146_45_6 : m146 45 6 = (p8 + 1) := (gm146 45 6 rfl).trans km143_45_6
                      show zW E (d) 14 126 [(2, 45), (0, f1), (0, i5), (0, p8)] [] m146 Q
                      refine zw_R zr_14_126 (by decide) zm_14 (v := (9, 0)) rfl ?_
                      rw [← hQ]; exact ⟨rfl, hIm146, hFm146, by omega⟩
                    · intro h147
                      refine zw_7 zr_8_9 rfl ?_
                      refine zw_46r (s := 48) zr_8_10 rfl rfl rfl rfl ?_
                      refine zw_7 zr_8_13 rfl ?_
                      refine zw_46i zr_8_14 ef144 rfl rfl rfl ?_
                      refine zw_3 zr_8_17 rfl ?_
                      refine zw_49 (c := 48) (len := 50) zr_8_18 rfl rfl (by omega) (by omega) ?_
                      intro m148 em148
                      have hIm148 : zInv m148 := by rw [em148]; exact hIm143.any (by omega) rfl (by decide) (by decide)
                      have hFm148 : zFr W_14 m0 m148 := by rw [em148]; exact hFm143.any rfl
                      have km148_45_7 : m148 45 7 = g0 := by rw [em148, zUp_ne (by omega)]; exact km143_45_7
                      have km148_45_6 : m148 45 6 = (p8 + 1) := by rw [em148, zUp_ne (by omega)]; exact km143_45_6
                      have km148_45_8 : m148 45 8 = f144 := by rw [em148, zUp_ne (by omega)]; exact ef144
                      clear em148
                      refine zw_7 zr_8_19 rfl ?_
                      refine zw_43 zr_8_20 rfl ?_
                      refine zw_46i zr_8_21 km148_45_8 rfl rfl rfl ?_
                      refine zw_push zr_8_24 ?_
                      refine zw_16 zr_8_25 (by omega) ?_
                      refine zw_47 (c := 45) zr_8_26 rfl ⟨rfl, by decide, rfl⟩ ?_
                      intro m149 em149
                      have hIm149 : zInv m149 := by rw [em149]; exact hIm148.bd (r := 45) (k := 8) (lo := 0) (hi := 50) rfl (by omega) (by decide) (by decide) (by decide)
                      have hFm149 : zFr W_14 m0 m149 := by rw [em149]; exact hFm148.up rfl
                      have km149_45_7 : m149 45 7 = g0 := by rw [em149, zUp_ne (by omega)]; exact km148_45_7
                      have km149_45_6 : m149 45 6 = (p8 + 1) := by rw [em149, zUp_ne (by omega)]; exact km148_45_6
                      have km149_45_8 : m149 45 8 = (f144 + 1) := by rw [em149]; exact zUp_eq _ _ _ _
                      clear em149
                      refine zw_R zr_8_29 (by decide) zm_8 (v := (9, 0)) rfl ?_
                      rw [← hQ1]
                      show zW E (d) 14 99 [(2, 45), (0, f1), (0, i5), (0, p8)] [] m149 Q
                      refine zw_42 zr_14_99 ?_
                      refine zw_7 zr_14_120 rfl ?_
                      refine zw_3 zr_14_121 rfl ?_
                      refine zw_3 zr_14_122 rfl ?_
                      refine zw_C zr_14_123 (Or.inl rfl) zm_11 rfl rfl ⟨Nat.le_of_ble_eq_true rfl, Nat.le_of_ble_eq_true rfl, Nat.le_of_ble_eq_true rfl, rfl, by decide⟩ (by omega) (th_11 (d := d - 1) (by omega) hIm149 (a0 := f1) (a1 := p8)   (by omega) (by omega)) ?_
                      rintro _ m150 ⟨rfl, hIm150, gm150⟩
                      have hFm150 : zFr W_14 m0 m150 := hFm149.trans gm150 rfl
                      have km150_45_7 : m150 45 7 = g0 := (gm150 45 7 rfl).trans km149_45_7
                      have km150_45_6 : m150 45 6 = (p8 + 1) := (gm150 45 6 rfl).trans km149_45_6
                      show zW E (d) 14 126 [(2, 45), (0, f1), (0, i5), (0, p8)] [] m150 Q
                      refine zw_R zr_14_126 (by decide) zm_14 (v := (9, 0)) rfl ?_
                      rw [← hQ]; exact ⟨rfl, hIm150, hFm150, by omega⟩
                by_cases h151 : i5 = 109
                · refine zw_112 (off := 65) (t := 66) zr_10_1 (by rw [h151]; rfl) rfl ?_
                  refine zw_push zr_10_66 ?_
                  refine zw_R zr_10_67 (by decide) zm_10 (v := (0, 3)) rfl ?_
                  rw [← hQ1]
                  show zW E (d) 14 79 [(2, 45), (0, f1), (0, i5), (0, p8)] [(0, 3)] m7 Q
                  refine zw_push zr_14_79 ?_
                  refine zw_41_1 zr_14_80 ?_ ?_
                  · intro h152; omega
                  · intro h153
                    refine zw_7 zr_14_83 rfl ?_
                    refine zw_43 zr_14_84 rfl ?_
                    refine zw_46i zr_14_85 km7_45_6 rfl rfl rfl ?_
                    refine zw_push zr_14_88 ?_
                    refine zw_16 zr_14_89 (by omega) ?_
                    refine zw_47 (c := 45) zr_14_90 rfl ⟨rfl, by decide, rfl⟩ ?_
                    intro m154 em154
                    have hIm154 : zInv m154 := by rw [em154]; exact hIm7.bd (r := 45) (k := 6) (lo := 0) (hi := 50) rfl (by omega) (by decide) (by decide) (by decide)
                    have hFm154 : zFr W_14 m0 m154 := by rw [em154]; exact hFm7.up rfl
                    have km154_45_7 : m154 45 7 = g0 := by rw [em154, zUp_ne (by omega)]; exact km7_45_7
                    have km154_45_6 : m154 45 6 = (p8 + 1) := by rw [em154]; exact zUp_eq _ _ _ _
                    clear em154
                    refine zw_7 zr_14_93 rfl ?_
                    refine zw_3 zr_14_94 rfl ?_
                    refine zw_38 zr_14_95 (by omega) ?_
                    refine zw_C zr_14_96 (Or.inl rfl) zm_8 rfl rfl ⟨Nat.le_of_ble_eq_true rfl, Nat.le_of_ble_eq_true rfl, Nat.le_of_ble_eq_true rfl, rfl, by decide⟩ (by omega) (P := (fun v m' => zW E (d) 14 99 [(2, 45), (0, f1), (0, i5), (0, p8)] (if v.1 = 9 then [] else v :: []) m' Q)) ?_ (fun _ _ h => h)
                    generalize hQ1 : (fun v m' => zW E (d) 14 99 [(2, 45), (0, f1), (0, i5), (0, p8)] (if v.1 = 9 then [] else v :: []) m' Q) = Q1
                    show zW E (d - 1) 8 0 [(2, 45), (0, (-i5))] [] m154 Q1
                    refine zw_7 zr_8_0 rfl ?_
                    obtain ⟨f155, ef155⟩ : ∃ v, m154 45 8 = v := ⟨_, rfl⟩
                    have bf155 := ib_45_8 hIm154
                    rw [ef155] at bf155
                    refine zw_46i zr_8_1 ef155 rfl rfl rfl ?_
                    refine zw_push zr_8_4 ?_
                    refine zw_41_3 zr_8_6 ?_ ?_
                    · intro h156
                      refine zw_R zr_8_29 (by decide) zm_8 (v := (9, 0)) rfl ?_
                      rw [← hQ1]
                      show zW E (d) 14 99 [(2, 45), (0, f1), (0, i5), (0, p8)] [] m154 Q
                      refine zw_42 zr_14_99 ?_
                      refine zw_7 zr_14_120 rfl ?_
                      refine zw_3 zr_14_121 rfl ?_
                      refine zw_3 zr_14_122 rfl ?_
                      refine zw_C zr_14_123 (Or.inl rfl) zm_11 rfl rfl ⟨Nat.le_of_ble_eq_true rfl, Nat.le_of_ble_eq_true rfl, Nat.le_of_ble_eq_true rfl, rfl, by decide⟩ (by omega) (th_11 (d := d - 1) (by omega) hIm154 (a0 := f1) (a1 := p8)   (by omega) (by omega)) ?_
                      rintro _ m157 ⟨rfl, hIm157, gm157⟩
                      have hFm157 : zFr W_14 m0 m157 := hFm154.trans gm157 rfl
                      have km157_45_7 : m157 45 7 = g0 := (gm157 45 7 rfl).trans km154_45_7
                      have km157_45_6 : m157 45 6 = (p8 + 1) := (gm157 45 6 rfl).trans km154_45_6
                      show zW E (d) 14 126 [(2, 45), (0, f1), (0, i5), (0, p8)] [] m157 Q
                      refine zw_R zr_14_126 (by decide) zm_14 (v := (9, 0)) rfl ?_
                      rw [← hQ]; exact ⟨rfl, hIm157, hFm157, by omega⟩
                    · intro h158
                      refine zw_7 zr_8_9 rfl ?_
                      refine zw_46r (s := 48) zr_8_10 rfl rfl rfl rfl ?_
                      refine zw_7 zr_8_13 rfl ?_
                      refine zw_46i zr_8_14 ef155 rfl rfl rfl ?_
                      refine zw_3 zr_8_17 rfl ?_
                      refine zw_49 (c := 48) (len := 50) zr_8_18 rfl rfl (by omega) (by omega) ?_
                      intro m159 em159
                      have hIm159 : zInv m159 := by rw [em159]; exact hIm154.any (by omega) rfl (by decide) (by decide)
                      have hFm159 : zFr W_14 m0 m159 := by rw [em159]; exact hFm154.any rfl
                      have km159_45_7 : m159 45 7 = g0 := by rw [em159, zUp_ne (by omega)]; exact km154_45_7
                      have km159_45_6 : m159 45 6 = (p8 + 1) := by rw [em159, zUp_ne (by omega)]; exact km154_45_6
                      have km159_45_8 : m159 45 8 = f155 := by rw [em159, zUp_ne (by omega)]; exact ef155
                      clear em159
                      refine zw_7 zr_8_19 rfl ?_
                      refine zw_43 zr_8_20 rfl ?_
                      refine zw_46i zr_8_21 km159_45_8 rfl rfl rfl ?_
                      refine zw_push zr_8_24 ?_
                      refine zw_16 zr_8_25 (by omega) ?_
                      refine zw_47 (c := 45) zr_8_26 rfl ⟨rfl, by decide, rfl⟩ ?_
                      intro m160 em160
                      have hIm160 : zInv m160 := by rw [em160]; exact hIm159.bd (r := 45) (k := 8) (lo := 0) (hi := 50) rfl (by omega) (by decide) (by decide) (by decide)
                      have hFm160 : zFr W_14 m0 m160 := by rw [em160]; exact hFm159.up rfl
                      have km160_45_7 : m160 45 7 = g0 := by rw [em160, zUp_ne (by omega)]; exact km159_45_7
                      have km160_45_6 : m160 45 6 = (p8 + 1) := by rw [em160, zUp_ne (by omega)]; exact km159_45_6
                      have km160_45_8 : m160 45 8 = (f155 + 1) := by rw [em160]; exact zUp_eq _ _ _ _
                      clear em160
                      refine zw_R zr_8_29 (by decide) zm_8 (v := (9, 0)) rfl ?_
                      rw [← hQ1]
                      show zW E (d) 14 99 [(2, 45), (0, f1), (0, i5), (0, p8)] [] m160 Q
                      refine zw_42 zr_14_99 ?_
                      refine zw_7 zr_14_120 rfl ?_
                      refine zw_3 zr_14_121 rfl ?_
                      refine zw_3 zr_14_122 rfl ?_
                      refine zw_C zr_14_123 (Or.inl rfl) zm_11 rfl rfl ⟨Nat.le_of_ble_eq_true rfl, Nat.le_of_ble_eq_true rfl, Nat.le_of_ble_eq_true rfl, rfl, by decide⟩ (by omega) (th_11 (d := d - 1) (by omega) hIm160 (a0 := f1) (a1 := p8)   (by omega) (by omega)) ?_
                      rintro _ m161 ⟨rfl, hIm161, gm161⟩
                      have hFm161 : zFr W_14 m0 m161 := hFm160.trans gm161 rfl
                      have km161_45_7 : m161 45 7 = g0 := (gm161 45 7 rfl).trans km160_45_7
                      have km161_45_6 : m161 45 6 = (p8 + 1) := (gm161 45 6 rfl).trans km160_45_6
                      show zW E (d) 14 126 [(2, 45), (0, f1), (0, i5), (0, p8)] [] m161 Q
                      refine zw_R zr_14_126 (by decide) zm_14 (v := (9, 0)) rfl ?_
                      rw [← hQ]; exact ⟨rfl, hIm161, hFm161, by omega⟩
                by_cases h162 : i5 = 111
                · refine zw_112 (off := 61) (t := 62) zr_10_1 (by rw [h162]; rfl) rfl ?_
                  refine zw_push zr_10_62 ?_
                  refine zw_R zr_10_63 (by decide) zm_10 (v := (0, 1)) rfl ?_
                  rw [← hQ1]
                  show zW E (d) 14 79 [(2, 45), (0, f1), (0, i5), (0, p8)] [(0, 1)] m7 Q
                  refine zw_push zr_14_79 ?_
                  refine zw_41_1 zr_14_80 ?_ ?_
                  · intro h163; omega
                  · intro h164
                    refine zw_7 zr_14_83 rfl ?_
                    refine zw_43 zr_14_84 rfl ?_
                    refine zw_46i zr_14_85 km7_45_6 rfl rfl rfl ?_
                    refine zw_push zr_14_88 ?_
                    refine zw_16 zr_14_89 (by omega) ?_
                    refine zw_47 (c := 45) zr_14_90 rfl ⟨rfl, by decide, rfl⟩ ?_
                    intro m165 em165
                    have hIm165 : zInv m165 := by rw [em165]; exact hIm7.bd (r := 45) (k := 6) (lo := 0) (hi := 50) rfl (by omega) (by decide) (by decide) (by decide)
                    have hFm165 : zFr W_14 m0 m165 := by rw [em165]; exact hFm7.up rfl
                    have km165_45_7 : m165 45 7 = g0 := by rw [em165, zUp_ne (by omega)]; exact km7_45_7
                    have km165_45_6 : m165 45 6 = (p8 + 1) := by rw [em165]; exact zUp_eq _ _ _ _
                    clear em165
                    refine zw_7 zr_14_93 rfl ?_
                    refine zw_3 zr_14_94 rfl ?_
                    refine zw_38 zr_14_95 (by omega) ?_
                    refine zw_C zr_14_96 (Or.inl rfl) zm_8 rfl rfl ⟨Nat.le_of_ble_eq_true rfl, Nat.le_of_ble_eq_true rfl, Nat.le_of_ble_eq_true rfl, rfl, by decide⟩ (by omega) (P := (fun v m' => zW E (d) 14 99 [(2, 45), (0, f1), (0, i5), (0, p8)] (if v.1 = 9 then [] else v :: []) m' Q)) ?_ (fun _ _ h => h)
                    generalize hQ1 : (fun v m' => zW E (d) 14 99 [(2, 45), (0, f1), (0, i5), (0, p8)] (if v.1 = 9 then [] else v :: []) m' Q) = Q1
                    show zW E (d - 1) 8 0 [(2, 45), (0, (-i5))] [] m165 Q1
                    refine zw_7 zr_8_0 rfl ?_
                    obtain ⟨f166, ef166⟩ : ∃ v, m165 45 8 = v := ⟨_, rfl⟩
                    have bf166 := ib_45_8 hIm165
                    rw [ef166] at bf166
                    refine zw_46i zr_8_1 ef166 rfl rfl rfl ?_
                    refine zw_push zr_8_4 ?_
                    refine zw_41_3 zr_8_6 ?_ ?_
                    · intro h167
                      refine zw_R zr_8_29 (by decide) zm_8 (v := (9, 0)) rfl ?_
                      rw [← hQ1]
                      show zW E (d) 14 99 [(2, 45), (0, f1), (0, i5), (0, p8)] [] m165 Q
                      refine zw_42 zr_14_99 ?_
                      refine zw_7 zr_14_120 rfl ?_
                      refine zw_3 zr_14_121 rfl ?_
                      refine zw_3 zr_14_122 rfl ?_
                      refine zw_C zr_14_123 (Or.inl rfl) zm_11 rfl rfl ⟨Nat.le_of_ble_eq_true rfl, Nat.le_of_ble_eq_true rfl, Nat.le_of_ble_eq_true rfl, rfl, by decide⟩ (by omega) (th_11 (d := d - 1) (by omega) hIm165 (a0 := f1) (a1 := p8)   (by omega) (by omega)) ?_
                      rintro _ m168 ⟨rfl, hIm168, gm168⟩
                      have hFm168 : zFr W_14 m0 m168 := hFm165.trans gm168 rfl
                      have km168_45_7 : m168 45 7 = g0 := (gm168 45 7 rfl).trans km165_45_7
                      have km168_45_6 : m168 45 6 = (p8 + 1) := (gm168 45 6 rfl).trans km165_45_6
                      show zW E (d) 14 126 [(2, 45), (0, f1), (0, i5), (0, p8)] [] m168 Q
                      refine zw_R zr_14_126 (by decide) zm_14 (v := (9, 0)) rfl ?_
                      rw [← hQ]; exact ⟨rfl, hIm168, hFm168, by omega⟩
                    · intro h169
                      refine zw_7 zr_8_9 rfl ?_
                      refine zw_46r (s := 48) zr_8_10 rfl rfl rfl rfl ?_
                      refine zw_7 zr_8_13 rfl ?_
                      refine zw_46i zr_8_14 ef166 rfl rfl rfl ?_
                      refine zw_3 zr_8_17 rfl ?_
                      refine zw_49 (c := 48) (len := 50) zr_8_18 rfl rfl (by omega) (by omega) ?_
                      intro m170 em170
                      have hIm170 : zInv m170 := by rw [em170]; exact hIm165.any (by omega) rfl (by decide) (by decide)
                      have hFm170 : zFr W_14 m0 m170 := by rw [em170]; exact hFm165.any rfl
                      have km170_45_7 : m170 45 7 = g0 := by rw [em170, zUp_ne (by omega)]; exact km165_45_7
                      have km170_45_6 : m170 45 6 = (p8 + 1) := by rw [em170, zUp_ne (by omega)]; exact km165_45_6
                      have km170_45_8 : m170 45 8 = f166 := by rw [em170, zUp_ne (by omega)]; exact ef166
                      clear em170
                      refine zw_7 zr_8_19 rfl ?_
                      refine zw_43 zr_8_20 rfl ?_
                      refine zw_46i zr_8_21 km170_45_8 rfl rfl rfl ?_
                      refine zw_push zr_8_24 ?_
                      refine zw_16 zr_8_25 (by omega) ?_
                      refine zw_47 (c := 45) zr_8_26 rfl ⟨rfl, by decide, rfl⟩ ?_
                      intro m171 em171
                      have hIm171 : zInv m171 := by rw [em171]; exact hIm170.bd (r := 45) (k := 8) (lo := 0) (hi := 50) rfl (by omega) (by decide) (by decide) (by decide)
                      have hFm171 : zFr W_14 m0 m171 := by rw [em171]; exact hFm170.up rfl
                      have km171_45_7 : m171 45 7 = g0 := by rw [em171, zUp_ne (by omega)]; exact km170_45_7
                      have km171_45_6 : m171 45 6 = (p8 + 1) := by rw [em171, zUp_ne (by omega)]; exact km170_45_6
                      have km171_45_8 : m171 45 8 = (f166 + 1) := by rw [em171]; exact zUp_eq _ _ _ _
                      clear em171
                      refine zw_R zr_8_29 (by decide) zm_8 (v := (9, 0)) rfl ?_
                      rw [← hQ1]
                      show zW E (d) 14 99 [(2, 45), (0, f1), (0, i5), (0, p8)] [] m171 Q
                      refine zw_42 zr_14_99 ?_
                      refine zw_7 zr_14_120 rfl ?_
                      refine zw_3 zr_14_121 rfl ?_
                      refine zw_3 zr_14_122 rfl ?_
                      refine zw_C zr_14_123 (Or.inl rfl) zm_11 rfl rfl ⟨Nat.le_of_ble_eq_true rfl, Nat.le_of_ble_eq_true rfl, Nat.le_of_ble_eq_true rfl, rfl, by decide⟩ (by omega) (th_11 (d := d - 1) (by omega) hIm171 (a0 := f1) (a1 := p8)   (by omega) (by omega)) ?_
                      rintro _ m172 ⟨rfl, hIm172, gm172⟩
                      have hFm172 : zFr W_14 m0 m172 := hFm171.trans gm172 rfl
                      have km172_45_7 : m172 45 7 = g0 := (gm172 45 7 rfl).trans km171_45_7
                      have km172_45_6 : m172 45 6 = (p8 + 1) := (gm172 45 6 rfl).trans km171_45_6
                      show zW E (d) 14 126 [(2, 45), (0, f1), (0, i5), (0, p8)] [] m172 Q
                      refine zw_R zr_14_126 (by decide) zm_14 (v := (9, 0)) rfl ?_
                      rw [← hQ]; exact ⟨rfl, hIm172, hFm172, by omega⟩
                by_cases h173 : i5 = 120
                · refine zw_112 (off := 59) (t := 60) zr_10_1 (by rw [h173]; rfl) rfl ?_
                  refine zw_push zr_10_60 ?_
                  refine zw_R zr_10_61 (by decide) zm_10 (v := (0, 0)) rfl ?_
                  rw [← hQ1]
                  show zW E (d) 14 79 [(2, 45), (0, f1), (0, i5), (0, p8)] [(0, 0)] m7 Q
                  refine zw_push zr_14_79 ?_
                  refine zw_41_1 zr_14_80 ?_ ?_
                  · intro h174; omega
                  · intro h175
                    refine zw_7 zr_14_83 rfl ?_
                    refine zw_43 zr_14_84 rfl ?_
                    refine zw_46i zr_14_85 km7_45_6 rfl rfl rfl ?_
                    refine zw_push zr_14_88 ?_
                    refine zw_16 zr_14_89 (by omega) ?_
                    refine zw_47 (c := 45) zr_14_90 rfl ⟨rfl, by decide, rfl⟩ ?_
                    intro m176 em176
                    have hIm176 : zInv m176 := by rw [em176]; exact hIm7.bd (r := 45) (k := 6) (lo := 0) (hi := 50) rfl (by omega) (by decide) (by decide) (by decide)
                    have hFm176 : zFr W_14 m0 m176 := by rw [em176]; exact hFm7.up rfl
                    have km176_45_7 : m176 45 7 = g0 := by rw [em176, zUp_ne (by omega)]; exact km7_45_7
                    have km176_45_6 : m176 45 6 = (p8 + 1) := by rw [em176]; exact zUp_eq _ _ _ _
                    clear em176
                    refine zw_7 zr_14_93 rfl ?_
                    refine zw_3 zr_14_94 rfl ?_
                    refine zw_38 zr_14_95 (by omega) ?_
                    refine zw_C zr_14_96 (Or.inl rfl) zm_8 rfl rfl ⟨Nat.le_of_ble_eq_true rfl, Nat.le_of_ble_eq_true rfl, Nat.le_of_ble_eq_true rfl, rfl, by decide⟩ (by omega) (P := (fun v m' => zW E (d) 14 99 [(2, 45), (0, f1), (0, i5), (0, p8)] (if v.1 = 9 then [] else v :: []) m' Q)) ?_ (fun _ _ h => h)
                    generalize hQ1 : (fun v m' => zW E (d) 14 99 [(2, 45), (0, f1), (0, i5), (0, p8)] (if v.1 = 9 then [] else v :: []) m' Q) = Q1
                    show zW E (d - 1) 8 0 [(2, 45), (0, (-i5))] [] m176 Q1
                    refine zw_7 zr_8_0 rfl ?_
                    obtain ⟨f177, ef177⟩ : ∃ v, m176 45 8 = v := ⟨_, rfl⟩
                    have bf177 := ib_45_8 hIm176
                    rw [ef177] at bf177
                    refine zw_46i zr_8_1 ef177 rfl rfl rfl ?_
                    refine zw_push zr_8_4 ?_
                    refine zw_41_3 zr_8_6 ?_ ?_
                    · intro h178
                      refine zw_R zr_8_29 (by decide) zm_8 (v := (9, 0)) rfl ?_
                      rw [← hQ1]
                      show zW E (d) 14 99 [(2, 45), (0, f1), (0, i5), (0, p8)] [] m176 Q
                      refine zw_42 zr_14_99 ?_
                      refine zw_7 zr_14_120 rfl ?_
                      refine zw_3 zr_14_121 rfl ?_
                      refine zw_3 zr_14_122 rfl ?_
                      refine zw_C zr_14_123 (Or.inl rfl) zm_11 rfl rfl ⟨Nat.le_of_ble_eq_true rfl, Nat.le_of_ble_eq_true rfl, Nat.le_of_ble_eq_true rfl, rfl, by decide⟩ (by omega) (th_11 (d := d - 1) (by omega) hIm176 (a0 := f1) (a1 := p8)   (by omega) (by omega)) ?_
                      rintro _ m179 ⟨rfl, hIm179, gm179⟩
                      have hFm179 : zFr W_14 m0 m179 := hFm176.trans gm179 rfl
                      have km179_45_7 : m179 45 7 = g0 := (gm179 45 7 rfl).trans km176_45_7
                      have km179_45_6 : m179 45 6 = (p8 + 1) := (gm179 45 6 rfl).trans km176_45_6
                      show zW E (d) 14 126 [(2, 45), (0, f1), (0, i5), (0, p8)] [] m179 Q
                      refine zw_R zr_14_126 (by decide) zm_14 (v := (9, 0)) rfl ?_
                      rw [← hQ]; exact ⟨rfl, hIm179, hFm179, by omega⟩
                    · intro h180
                      refine zw_7 zr_8_9 rfl ?_
                      refine zw_46r (s := 48) zr_8_10 rfl rfl rfl rfl ?_
                      refine zw_7 zr_8_13 rfl ?_
                      refine zw_46i zr_8_14 ef177 rfl rfl rfl ?_
                      refine zw_3 zr_8_17 rfl ?_
                      refine zw_49 (c := 48) (len := 50) zr_8_18 rfl rfl (by omega) (by omega) ?_
                      intro m181 em181
                      have hIm181 : zInv m181 := by rw [em181]; exact hIm176.any (by omega) rfl (by decide) (by decide)
                      have hFm181 : zFr W_14 m0 m181 := by rw [em181]; exact hFm176.any rfl
                      have km181_45_7 : m181 45 7 = g0 := by rw [em181, zUp_ne (by omega)]; exact km176_45_7
                      have km181_45_6 : m181 45 6 = (p8 + 1) := by rw [em181, zUp_ne (by omega)]; exact km176_45_6
                      have km181_45_8 : m181 45 8 = f177 := by rw [em181, zUp_ne (by omega)]; exact ef177
                      clear em181
                      refine zw_7 zr_8_19 rfl ?_
                      refine zw_43 zr_8_20 rfl ?_
                      refine zw_46i zr_8_21 km181_45_8 rfl rfl rfl ?_
                      refine zw_push zr_8_24 ?_
                      refine zw_16 zr_8_25 (by omega) ?_
                      refine zw_47 (c := 45) zr_8_26 rfl ⟨rfl, by decide, rfl⟩ ?_
                      intro m182 em182
                      have hIm182 : zInv m182 := by rw [em182]; exact hIm181.bd (r := 45) (k := 8) (lo := 0) (hi := 50) rfl (by omega) (by decide) (by decide) (by decide)
                      have hFm182 : zFr W_14 m0 m182 := by rw [em182]; exact hFm181.up rfl
                      have km182_45_7 : m182 45 7 = g0 := by rw [em182, zUp_ne (by omega)]; exact km181_45_7
                      have km182_45_6 : m182 45 6 = (p8 + 1) := by rw [em182, zUp_ne (by omega)]; exact km181_45_6
                      have km182_45_8 : m182 45 8 = (f177 + 1) := by rw [em182]; exact zUp_eq _ _ _ _
                      clear em182
                      refine zw_R zr_8_29 (by decide) zm_8 (v := (9, 0)) rfl ?_
                      rw [← hQ1]
                      show zW E (d) 14 99 [(2, 45), (0, f1), (0, i5), (0, p8)] [] m182 Q
                      refine zw_42 zr_14_99 ?_
                      refine zw_7 zr_14_120 rfl ?_
                      refine zw_3 zr_14_121 rfl ?_
                      refine zw_3 zr_14_122 rfl ?_
                      refine zw_C zr_14_123 (Or.inl rfl) zm_11 rfl rfl ⟨Nat.le_of_ble_eq_true rfl, Nat.le_of_ble_eq_true rfl, Nat.le_of_ble_eq_true rfl, rfl, by decide⟩ (by omega) (th_11 (d := d - 1) (by omega) hIm182 (a0 := f1) (a1 := p8)   (by omega) (by omega)) ?_
                      rintro _ m183 ⟨rfl, hIm183, gm183⟩
                      have hFm183 : zFr W_14 m0 m183 := hFm182.trans gm183 rfl
                      have km183_45_7 : m183 45 7 = g0 := (gm183 45 7 rfl).trans km182_45_7
                      have km183_45_6 : m183 45 6 = (p8 + 1) := (gm183 45 6 rfl).trans km182_45_6
                      show zW E (d) 14 126 [(2, 45), (0, f1), (0, i5), (0, p8)] [] m183 Q
                      refine zw_R zr_14_126 (by decide) zm_14 (v := (9, 0)) rfl ?_
                      rw [← hQ]; exact ⟨rfl, hIm183, hFm183, by omega⟩
                by_cases h184 : i5 = 121
                · refine zw_112 (off := 67) (t := 68) zr_10_1 (by rw [h184]; rfl) rfl ?_
                  refine zw_push zr_10_68 ?_
                  refine zw_R zr_10_69 (by decide) zm_10 (v := (0, 4)) rfl ?_
                  rw [← hQ1]
                  show zW E (d) 14 79 [(2, 45), (0, f1), (0, i5), (0, p8)] [(0, 4)] m7 Q
                  refine zw_push zr_14_79 ?_
                  refine zw_41_1 zr_14_80 ?_ ?_
                  · intro h185; omega
                  · intro h186
                    refine zw_7 zr_14_83 rfl ?_
                    refine zw_43 zr_14_84 rfl ?_
                    refine zw_46i zr_14_85 km7_45_6 rfl rfl rfl ?_
                    refine zw_push zr_14_88 ?_
                    refine zw_16 zr_14_89 (by omega) ?_
                    refine zw_47 (c := 45) zr_14_90 rfl ⟨rfl, by decide, rfl⟩ ?_
                    intro m187 em187
                    have hIm187 : zInv m187 := by rw [em187]; exact hIm7.bd (r := 45) (k := 6) (lo := 0) (hi := 50) rfl (by omega) (by decide) (by decide) (by decide)
                    have hFm187 : zFr W_14 m0 m187 := by rw [em187]; exact hFm7.up rfl
                    have km187_45_7 : m187 45 7 = g0 := by rw [em187, zUp_ne (by omega)]; exact km7_45_7
                    have km187_45_6 : m187 45 6 = (p8 + 1) := by rw [em187]; exact zUp_eq _ _ _ _
                    clear em187
                    refine zw_7 zr_14_93 rfl ?_
                    refine zw_3 zr_14_94 rfl ?_
                    refine zw_38 zr_14_95 (by omega) ?_
                    refine zw_C zr_14_96 (Or.inl rfl) zm_8 rfl rfl ⟨Nat.le_of_ble_eq_true rfl, Nat.le_of_ble_eq_true rfl, Nat.le_of_ble_eq_true rfl, rfl, by decide⟩ (by omega) (P := (fun v m' => zW E (d) 14 99 [(2, 45), (0, f1), (0, i5), (0, p8)] (if v.1 = 9 then [] else v :: []) m' Q)) ?_ (fun _ _ h => h)
                    generalize hQ1 : (fun v m' => zW E (d) 14 99 [(2, 45), (0, f1), (0, i5), (0, p8)] (if v.1 = 9 then [] else v :: []) m' Q) = Q1
                    show zW E (d - 1) 8 0 [(2, 45), (0, (-i5))] [] m187 Q1
                    refine zw_7 zr_8_0 rfl ?_
                    obtain ⟨f188, ef188⟩ : ∃ v, m187 45 8 = v := ⟨_, rfl⟩
                    have bf188 := ib_45_8 hIm187
                    rw [ef188] at bf188
                    refine zw_46i zr_8_1 ef188 rfl rfl rfl ?_
                    refine zw_push zr_8_4 ?_
                    refine zw_41_3 zr_8_6 ?_ ?_
                    · intro h189
                      refine zw_R zr_8_29 (by decide) zm_8 (v := (9, 0)) rfl ?_
                      rw [← hQ1]
                      show zW E (d) 14 99 [(2, 45), (0, f1), (0, i5), (0, p8)] [] m187 Q
                      refine zw_42 zr_14_99 ?_
                      refine zw_7 zr_14_120 rfl ?_
                      refine zw_3 zr_14_121 rfl ?_
                      refine zw_3 zr_14_122 rfl ?_
                      refine zw_C zr_14_123 (Or.inl rfl) zm_11 rfl rfl ⟨Nat.le_of_ble_eq_true rfl, Nat.le_of_ble_eq_true rfl, Nat.le_of_ble_eq_true rfl, rfl, by decide⟩ (by omega) (th_11 (d := d - 1) (by omega) hIm187 (a0 := f1) (a1 := p8)   (by omega) (by omega)) ?_
                      rintro _ m190 ⟨rfl, hIm190, gm190⟩
                      have hFm190 : zFr W_14 m0 m190 := hFm187.trans gm190 rfl
                      have km190_45_7 : m190 45 7 = g0 := (gm190 45 7 rfl).trans km187_45_7
                      have km190_45_6 : m190 45 6 = (p8 + 1) := (gm190 45 6 rfl).trans km187_45_6
                      show zW E (d) 14 126 [(2, 45), (0, f1), (0, i5), (0, p8)] [] m190 Q
                      refine zw_R zr_14_126 (by decide) zm_14 (v := (9, 0)) rfl ?_
                      rw [← hQ]; exact ⟨rfl, hIm190, hFm190, by omega⟩
                    · intro h191
                      refine zw_7 zr_8_9 rfl ?_
                      refine zw_46r (s := 48) zr_8_10 rfl rfl rfl rfl ?_
                      refine zw_7 zr_8_13 rfl ?_
                      refine zw_46i zr_8_14 ef188 rfl rfl rfl ?_
                      refine zw_3 zr_8_17 rfl ?_
                      refine zw_49 (c := 48) (len := 50) zr_8_18 rfl rfl (by omega) (by omega) ?_
                      intro m192 em192
                      have hIm192 : zInv m192 := by rw [em192]; exact hIm187.any (by omega) rfl (by decide) (by decide)
                      have hFm192 : zFr W_14 m0 m192 := by rw [em192]; exact hFm187.any rfl
                      have km192_45_7 : m192 45 7 = g0 := by rw [em192, zUp_ne (by omega)]; exact km187_45_7
                      have km192_45_6 : m192 45 6 = (p8 + 1) := by rw [em192, zUp_ne (by omega)]; exact km187_45_6
                      have km192_45_8 : m192 45 8 = f188 := by rw [em192, zUp_ne (by omega)]; exact ef188
                      clear em192
                      refine zw_7 zr_8_19 rfl ?_
                      refine zw_43 zr_8_20 rfl ?_
                      refine zw_46i zr_8_21 km192_45_8 rfl rfl rfl ?_
                      refine zw_push zr_8_24 ?_
                      refine zw_16 zr_8_25 (by omega) ?_
                      refine zw_47 (c := 45) zr_8_26 rfl ⟨rfl, by decide, rfl⟩ ?_
                      intro m193 em193
                      have hIm193 : zInv m193 := by rw [em193]; exact hIm192.bd (r := 45) (k := 8) (lo := 0) (hi := 50) rfl (by omega) (by decide) (by decide) (by decide)
                      have hFm193 : zFr W_14 m0 m193 := by rw [em193]; exact hFm192.up rfl
                      have km193_45_7 : m193 45 7 = g0 := by rw [em193, zUp_ne (by omega)]; exact km192_45_7
                      have km193_45_6 : m193 45 6 = (p8 + 1) := by rw [em193, zUp_ne (by omega)]; exact km192_45_6
                      have km193_45_8 : m193 45 8 = (f188 + 1) := by rw [em193]; exact zUp_eq _ _ _ _
                      clear em193
                      refine zw_R zr_8_29 (by decide) zm_8 (v := (9, 0)) rfl ?_
                      rw [← hQ1]
                      show zW E (d) 14 99 [(2, 45), (0, f1), (0, i5), (0, p8)] [] m193 Q
                      refine zw_42 zr_14_99 ?_
                      refine zw_7 zr_14_120 rfl ?_
                      refine zw_3 zr_14_121 rfl ?_
                      refine zw_3 zr_14_122 rfl ?_
                      refine zw_C zr_14_123 (Or.inl rfl) zm_11 rfl rfl ⟨Nat.le_of_ble_eq_true rfl, Nat.le_of_ble_eq_true rfl, Nat.le_of_ble_eq_true rfl, rfl, by decide⟩ (by omega) (th_11 (d := d - 1) (by omega) hIm193 (a0 := f1) (a1 := p8)   (by omega) (by omega)) ?_
                      rintro _ m194 ⟨rfl, hIm194, gm194⟩
                      have hFm194 : zFr W_14 m0 m194 := hFm193.trans gm194 rfl
                      have km194_45_7 : m194 45 7 = g0 := (gm194 45 7 rfl).trans km193_45_7
                      have km194_45_6 : m194 45 6 = (p8 + 1) := (gm194 45 6 rfl).trans km193_45_6
                      show zW E (d) 14 126 [(2, 45), (0, f1), (0, i5), (0, p8)] [] m194 Q
                      refine zw_R zr_14_126 (by decide) zm_14 (v := (9, 0)) rfl ?_
                      rw [← hQ]; exact ⟨rfl, hIm194, hFm194, by omega⟩
                refine zw_112 (off := 71) (t := 72) zr_10_1 (zlsw_df (by simp; omega)) rfl ?_
                refine zw_push zr_10_72 ?_
                refine zw_R zr_10_73 (by decide) zm_10 (v := (0, (-1))) rfl ?_
                rw [← hQ1]
                show zW E (d) 14 79 [(2, 45), (0, f1), (0, i5), (0, p8)] [(0, (-1))] m7 Q
                refine zw_push zr_14_79 ?_
                refine zw_41_1 zr_14_80 ?_ ?_
                · intro h195
                  refine zw_3 zr_14_102 rfl ?_
                  refine zw_push zr_14_103 ?_
                  refine zw_41_4 zr_14_105 ?_ ?_
                  · intro h196
                    refine zw_7 zr_14_115 rfl ?_
                    refine zw_push zr_14_116 ?_
                    refine zw_C zr_14_117 (Or.inl rfl) zm_5 rfl rfl ⟨Nat.le_of_ble_eq_true rfl, Nat.le_of_ble_eq_true rfl, Nat.le_of_ble_eq_true rfl, rfl, by decide⟩ (by omega) (P := (fun v m' => zW E (d) 14 120 [(2, 45), (0, f1), (0, i5), (0, p8)] (if v.1 = 9 then [] else v :: []) m' Q)) ?_ (fun _ _ h => h)
                    generalize hQ1 : (fun v m' => zW E (d) 14 120 [(2, 45), (0, f1), (0, i5), (0, p8)] (if v.1 = 9 then [] else v :: []) m' Q) = Q1
                    show zW E (d - 1) 5 0 [(2, 45), (0, 1)] [] m7 Q1
                    refine zw_7 zr_5_0 rfl ?_
                    obtain ⟨f197, ef197⟩ : ∃ v, m7 45 1 = v := ⟨_, rfl⟩
                    have bf197 := hIm7.fi (c := 45) (k := 1) rfl
                    rw [ef197] at bf197
                    refine zw_46i zr_5_1 ef197 rfl rfl rfl ?_
                    refine zw_push zr_5_4 ?_
                    refine zw_41_4 zr_5_5 ?_ ?_
                    · intro h198
                      refine zw_R zr_5_21 (by decide) zm_5 (v := (9, 0)) rfl ?_
                      rw [← hQ1]
                      show zW E (d) 14 120 [(2, 45), (0, f1), (0, i5), (0, p8)] [] m7 Q
                      refine zw_7 zr_14_120 rfl ?_
                      refine zw_3 zr_14_121 rfl ?_
                      refine zw_3 zr_14_122 rfl ?_
                      refine zw_C zr_14_123 (Or.inl rfl) zm_11 rfl rfl ⟨Nat.le_of_ble_eq_true rfl, Nat.le_of_ble_eq_true rfl, Nat.le_of_ble_eq_true rfl, rfl, by decide⟩ (by omega) (th_11 (d := d - 1) (by omega) hIm7 (a0 := f1) (a1 := p8)   (by omega) (by omega)) ?_
                      rintro _ m199 ⟨rfl, hIm199, gm199⟩
                      have hFm199 : zFr W_14 m0 m199 := hFm7.trans gm199 rfl
                      have km199_45_7 : m199 45 7 = g0 := (gm199 45 7 rfl).trans km7_45_7
                      have km199_45_6 : m199 45 6 = p8 := (gm199 45 6 rfl).trans km7_45_6
                      have km199_45_1 : m199 45 1 = f197 := (gm199 45 1 rfl).trans ef197
                      show zW E (d) 14 126 [(2, 45), (0, f1), (0, i5), (0, p8)] [] m199 Q
                      refine zw_R zr_14_126 (by decide) zm_14 (v := (9, 0)) rfl ?_
                      rw [← hQ]; exact ⟨rfl, hIm199, hFm199, by omega⟩
                    · intro h200
                      refine zw_7 zr_5_8 rfl ?_
                      refine zw_7 zr_5_9 rfl ?_
                      refine zw_46i zr_5_10 km7_45_6 rfl rfl rfl ?_
                      refine zw_push zr_5_13 ?_
                      refine zw_18 zr_5_15 (by omega) ?_
                      refine zw_3 zr_5_16 rfl ?_
                      refine zw_16 zr_5_17 (by omega) ?_
                      refine zw_47 (c := 45) zr_5_18 rfl ⟨rfl, by decide, rfl⟩ ?_
                      intro m201 em201
                      have hIm201 : zInv m201 := by rw [em201]; exact hIm7.any (by omega) rfl (by decide) (by decide)
                      have hFm201 : zFr W_14 m0 m201 := by rw [em201]; exact hFm7.up rfl
                      have km201_45_7 : m201 45 7 = g0 := by rw [em201, zUp_ne (by omega)]; exact km7_45_7
                      have km201_45_6 : m201 45 6 = p8 := by rw [em201, zUp_ne (by omega)]; exact km7_45_6
                      have km201_45_1 : m201 45 1 = ((p8 * 10) + 1) := by rw [em201]; exact zUp_eq _ _ _ _
                      clear em201
                      refine zw_R zr_5_21 (by decide) zm_5 (v := (9, 0)) rfl ?_
                      rw [← hQ1]
                      show zW E (d) 14 120 [(2, 45), (0, f1), (0, i5), (0, p8)] [] m201 Q
                      refine zw_7 zr_14_120 rfl ?_
                      refine zw_3 zr_14_121 rfl ?_
                      refine zw_3 zr_14_122 rfl ?_
                      refine zw_C zr_14_123 (Or.inl rfl) zm_11 rfl rfl ⟨Nat.le_of_ble_eq_true rfl, Nat.le_of_ble_eq_true rfl, Nat.le_of_ble_eq_true rfl, rfl, by decide⟩ (by omega) (th_11 (d := d - 1) (by omega) hIm201 (a0 := f1) (a1 := p8)   (by omega) (by omega)) ?_
                      rintro _ m202 ⟨rfl, hIm202, gm202⟩
                      have hFm202 : zFr W_14 m0 m202 := hFm201.trans gm202 rfl
                      have km202_45_7 : m202 45 7 = g0 := (gm202 45 7 rfl).trans km201_45_7
                      have km202_45_6 : m202 45 6 = p8 := (gm202 45 6 rfl).trans km201_45_6
                      have km202_45_1 : m202 45 1 = ((p8 * 10) + 1) := (gm202 45 1 rfl).trans km201_45_1
                      show zW E (d) 14 126 [(2, 45), (0, f1), (0, i5), (0, p8)] [] m202 Q
                      refine zw_R zr_14_126 (by decide) zm_14 (v := (9, 0)) rfl ?_
                      rw [← hQ]; exact ⟨rfl, hIm202, hFm202, by omega⟩
                  · intro h203; omega
                · intro h204; omega
              · intro h205
                refine zw_7 zr_14_68 rfl ?_
                refine zw_C zr_14_69 (Or.inl rfl) zm_9 rfl rfl ⟨Nat.le_of_ble_eq_true rfl, Nat.le_of_ble_eq_true rfl, Nat.le_of_ble_eq_true rfl, rfl, by decide⟩ (by omega) (th_9 (d := d - 1) (by omega) hIm7    ) ?_
                rintro _ m206 ⟨rfl, hIm206, gm206⟩
                have hFm206 : zFr W_14 m0 m206 := hFm7.trans gm206 rfl
                have km206_45_7 : m206 45 7 = g0 := (gm206 45 7 rfl).trans km7_45_7
                show zW E (d) 14 72 [(2, 45), (0, f1), (0, i5), (0, p8)] [] m206 Q
                refine zw_42 zr_14_72 ?_
                refine zw_7 zr_14_120 rfl ?_
                refine zw_3 zr_14_121 rfl ?_
                refine zw_3 zr_14_122 rfl ?_
                refine zw_C zr_14_123 (Or.inl rfl) zm_11 rfl rfl ⟨Nat.le_of_ble_eq_true rfl, Nat.le_of_ble_eq_true rfl, Nat.le_of_ble_eq_true rfl, rfl, by decide⟩ (by omega) (th_11 (d := d - 1) (by omega) hIm206 (a0 := f1) (a1 := p8)   (by omega) (by omega)) ?_
                rintro _ m207 ⟨rfl, hIm207, gm207⟩
                have hFm207 : zFr W_14 m0 m207 := hFm206.trans gm207 rfl
                have km207_45_7 : m207 45 7 = g0 := (gm207 45 7 rfl).trans km206_45_7
                show zW E (d) 14 126 [(2, 45), (0, f1), (0, i5), (0, p8)] [] m207 Q
                refine zw_R zr_14_126 (by decide) zm_14 (v := (9, 0)) rfl ?_
                rw [← hQ]; exact ⟨rfl, hIm207, hFm207, by omega⟩
          · intro h208
            refine zw_7 zr_14_30 rfl ?_
            refine zw_43 zr_14_31 rfl ?_
            refine zw_46i zr_14_32 km7_45_6 rfl rfl rfl ?_
            refine zw_push zr_14_35 ?_
            refine zw_16 zr_14_36 (by omega) ?_
            refine zw_47 (c := 45) zr_14_37 rfl ⟨rfl, by decide, rfl⟩ ?_
            intro m209 em209
            have hIm209 : zInv m209 := by rw [em209]; exact hIm7.bd (r := 45) (k := 6) (lo := 0) (hi := 50) rfl (by omega) (by decide) (by decide) (by decide)
            have hFm209 : zFr W_14 m0 m209 := by rw [em209]; exact hFm7.up rfl
            have km209_45_7 : m209 45 7 = g0 := by rw [em209, zUp_ne (by omega)]; exact km7_45_7
            have km209_45_6 : m209 45 6 = (p8 + 1) := by rw [em209]; exact zUp_eq _ _ _ _
            clear em209
            refine zw_7 zr_14_40 rfl ?_
            refine zw_C zr_14_41 (Or.inl rfl) zm_6 rfl rfl ⟨Nat.le_of_ble_eq_true rfl, Nat.le_of_ble_eq_true rfl, Nat.le_of_ble_eq_true rfl, rfl, by decide⟩ (by omega) (th_6 (d := d - 1) (by omega) hIm209    ) ?_
            rintro _ m210 ⟨r211, rfl, hr211a, hr211b, hIm210, gm210, po0_r211⟩
            have hFm210 : zFr W_14 m0 m210 := hFm209.trans gm210 rfl
            have km210_45_7 : m210 45 7 = g0 := (gm210 45 7 rfl).trans km209_45_7
            obtain ⟨f212, ef212⟩ : ∃ v, m210 45 6 = v := ⟨_, rfl⟩
            have bf212 := ib_45_6 hIm210
            rw [ef212] at bf212
            show zW E (d) 14 44 [(2, 45), (0, f1), (0, i5), (0, i6)] [(0, r211)] m210 Q
            refine zw_9 (L' := [(2, 45), (0, f1), (0, r211), (0, i6)]) zr_14_44 (Nat.le_of_ble_eq_true rfl) rfl ?_
            refine zw_15 (c := 1) (L' := [(2, 45), (0, f1), (0, r211), (0, (i6 + 1))]) zr_14_45 rfl (by decide) (by omega) rfl ?_
            refine zw_42 zr_14_48 ?_
            exact zw_less (L := [(2, 45), (0, f1), (0, r211), (0, (i6 + 1))]) ⟨Or.inr rfl, Or.inr rfl, Or.inr rfl, Or.inr rfl, trivial⟩ (ihlp12_9 (r211) ((i6 + 1)) (f212) m210 hIm210 hFm210  km210_45_7 ef212 (by omega) (by omega) (by omega) (by omega) (by omega) (by omega) (by omega) (by omega))
  exact lp12_9 _ (r3) (0) (f4) m2 hIm2 hFm2  km2_45_7 ef4 (by omega) (by omega) (by omega) (by omega) (by omega) (by omega) (by omega) (Nat.lt_succ_self _)
set_option maxHeartbeats 8000000 in
theorem tr_12 {E : zE} {d : Nat} (ih13 : rs_13 E (d - 1)) (ih14 : rs_14 E (d - 1)) (ih12 : rs_12 E (d - 1)) : rs_12 E d := by
  intro m0 g0 g1 hd hI0 hg0 hg1 hp0
  have hF0 : zFr W_12 m0 m0 := zFr.rfl
  have bg0 := ib_45_7 hI0
  rw [hg0] at bg0
  have bg1 := ib_45_6 hI0
  rw [hg1] at bg1
  generalize hQ : (fun (v : zV) (m' : zM) => v = (9, 0) ∧ zInv m' ∧ zFr W_12 m0 m' ∧ (m' 45 7 = g0)) = Q
  show zW E d 12 0 [(2, 45)] [] m0 Q
  refine zw_7 zr_12_0 rfl ?_
  refine zw_46i zr_12_1 hg0 rfl rfl rfl ?_
  refine zw_push zr_12_4 ?_
  refine zw_41_0 zr_12_6 ?_ ?_
  · intro h1
    refine zw_7 zr_12_15 rfl ?_
    refine zw_43 zr_12_16 rfl ?_
    refine zw_46i zr_12_17 hg1 rfl rfl rfl ?_
    refine zw_push zr_12_20 ?_
    refine zw_16 zr_12_21 (by omega) ?_
    refine zw_47 (c := 45) zr_12_22 rfl ⟨rfl, by decide, rfl⟩ ?_
    intro m2 em2
    have hIm2 : zInv m2 := by rw [em2]; exact hI0.bd (r := 45) (k := 6) (lo := 0) (hi := 50) rfl (by omega) (by decide) (by decide) (by decide)
    have hFm2 : zFr W_12 m0 m2 := by rw [em2]; exact hF0.up rfl
    have km2_45_7 : m2 45 7 = g0 := by rw [em2, zUp_ne (by omega)]; exact hg0
    have km2_45_6 : m2 45 6 = (g1 + 1) := by rw [em2]; exact zUp_eq _ _ _ _
    clear em2
    refine zw_7 zr_12_25 rfl ?_
    refine zw_43 zr_12_26 rfl ?_
    refine zw_46i zr_12_27 km2_45_7 rfl rfl rfl ?_
    refine zw_push zr_12_30 ?_
    refine zw_16 zr_12_31 (by omega) ?_
    refine zw_47 (c := 45) zr_12_32 rfl ⟨rfl, by decide, rfl⟩ ?_
    intro m3 em3
    have hIm3 : zInv m3 := by rw [em3]; exact hIm2.bd (r := 45) (k := 7) (lo := 0) (hi := 8) rfl (by omega) (by decide) (by decide) (by decide)
    have hFm3 : zFr W_12 m0 m3 := by rw [em3]; exact hFm2.up rfl
    have km3_45_6 : m3 45 6 = (g1 + 1) := by rw [em3, zUp_ne (by omega)]; exact km2_45_6
    have km3_45_7 : m3 45 7 = (g0 + 1) := by rw [em3]; exact zUp_eq _ _ _ _
    clear em3
    refine zw_7 zr_12_35 rfl ?_
    refine zw_push zr_12_36 ?_
    refine zw_C zr_12_37 (Or.inl rfl) zm_13 rfl rfl ⟨Nat.le_of_ble_eq_true rfl, Nat.le_of_ble_eq_true rfl, Nat.le_of_ble_eq_true rfl, rfl, by decide⟩ (by omega) (ih13 m3 (0) ((g0 + 1)) (by omega) hIm3 km3_45_7 (by omega)) ?_
    rintro _ m4 ⟨rfl, hIm4, gm4, po0_m4⟩
    have hFm4 : zFr W_12 m0 m4 := hFm3.trans gm4 rfl
    show zW E (d) 12 40 [(2, 45)] [] m4 Q
    refine zw_7 zr_12_40 rfl ?_
    refine zw_43 zr_12_41 rfl ?_
    refine zw_46i zr_12_42 po0_m4 rfl rfl rfl ?_
    refine zw_push zr_12_45 ?_
    refine zw_17 zr_12_46 (by omega) ?_
    refine zw_47 (c := 45) zr_12_47 rfl ⟨rfl, by decide, rfl⟩ ?_
    intro m5 em5
    have hIm5 : zInv m5 := by rw [em5]; exact hIm4.bd (r := 45) (k := 7) (lo := 0) (hi := 8) rfl (by omega) (by decide) (by decide) (by decide)
    have hFm5 : zFr W_12 m0 m5 := by rw [em5]; exact hFm4.up rfl
    have km5_45_7 : m5 45 7 = ((g0 + 1) - 1) := by rw [em5]; exact zUp_eq _ _ _ _
    clear em5
    refine zw_7 zr_12_50 rfl ?_
    refine zw_C zr_12_51 (Or.inl rfl) zm_6 rfl rfl ⟨Nat.le_of_ble_eq_true rfl, Nat.le_of_ble_eq_true rfl, Nat.le_of_ble_eq_true rfl, rfl, by decide⟩ (by omega) (th_6 (d := d - 1) (by omega) hIm5    ) ?_
    rintro _ m6 ⟨r7, rfl, hr7a, hr7b, hIm6, gm6, po0_r7⟩
    have hFm6 : zFr W_12 m0 m6 := hFm5.trans gm6 rfl
    have km6_45_7 : m6 45 7 = ((g0 + 1) - 1) := (gm6 45 7 rfl).trans km5_45_7
    obtain ⟨f8, ef8⟩ : ∃ v, m6 45 6 = v := ⟨_, rfl⟩
    have bf8 := ib_45_6 hIm6
    rw [ef8] at bf8
    show zW E (d) 12 54 [(2, 45)] [(0, r7)] m6 Q
    refine zw_push zr_12_54 ?_
    refine zw_41_4 zr_12_56 ?_ ?_
    · intro h9
      refine zw_7 zr_12_72 rfl ?_
      refine zw_push zr_12_73 ?_
      refine zw_C zr_12_74 (Or.inl rfl) zm_5 rfl rfl ⟨Nat.le_of_ble_eq_true rfl, Nat.le_of_ble_eq_true rfl, Nat.le_of_ble_eq_true rfl, rfl, by decide⟩ (by omega) (P := (fun v m' => zW E (d) 12 77 [(2, 45)] (if v.1 = 9 then [] else v :: []) m' Q)) ?_ (fun _ _ h => h)
      generalize hQ1 : (fun v m' => zW E (d) 12 77 [(2, 45)] (if v.1 = 9 then [] else v :: []) m' Q) = Q1
      show zW E (d - 1) 5 0 [(2, 45), (0, 1)] [] m6 Q1
      refine zw_7 zr_5_0 rfl ?_
      obtain ⟨f10, ef10⟩ : ∃ v, m6 45 1 = v := ⟨_, rfl⟩
      have bf10 := hIm6.fi (c := 45) (k := 1) rfl
      rw [ef10] at bf10
      refine zw_46i zr_5_1 ef10 rfl rfl rfl ?_
      refine zw_push zr_5_4 ?_
      refine zw_41_4 zr_5_5 ?_ ?_
      · intro h11
        refine zw_R zr_5_21 (by decide) zm_5 (v := (9, 0)) rfl ?_
        rw [← hQ1]
        show zW E (d) 12 77 [(2, 45)] [] m6 Q
        refine zw_R zr_12_77 (by decide) zm_12 (v := (9, 0)) rfl ?_
        rw [← hQ]; exact ⟨rfl, hIm6, hFm6, by omega⟩
      · intro h12
        refine zw_7 zr_5_8 rfl ?_
        refine zw_7 zr_5_9 rfl ?_
        refine zw_46i zr_5_10 ef8 rfl rfl rfl ?_
        refine zw_push zr_5_13 ?_
        refine zw_18 zr_5_15 (by omega) ?_
        refine zw_3 zr_5_16 rfl ?_
        refine zw_16 zr_5_17 (by omega) ?_
        refine zw_47 (c := 45) zr_5_18 rfl ⟨rfl, by decide, rfl⟩ ?_
        intro m13 em13
        have hIm13 : zInv m13 := by rw [em13]; exact hIm6.any (by omega) rfl (by decide) (by decide)
        have hFm13 : zFr W_12 m0 m13 := by rw [em13]; exact hFm6.up rfl
        have km13_45_7 : m13 45 7 = ((g0 + 1) - 1) := by rw [em13, zUp_ne (by omega)]; exact km6_45_7
        have km13_45_6 : m13 45 6 = f8 := by rw [em13, zUp_ne (by omega)]; exact ef8
        have km13_45_1 : m13 45 1 = ((f8 * 10) + 1) := by rw [em13]; exact zUp_eq _ _ _ _
        clear em13
        refine zw_R zr_5_21 (by decide) zm_5 (v := (9, 0)) rfl ?_
        rw [← hQ1]
        show zW E (d) 12 77 [(2, 45)] [] m13 Q
        refine zw_R zr_12_77 (by decide) zm_12 (v := (9, 0)) rfl ?_
        rw [← hQ]; exact ⟨rfl, hIm13, hFm13, by omega⟩
    · intro h14
      refine zw_7 zr_12_59 rfl ?_
      refine zw_43 zr_12_60 rfl ?_
      refine zw_46i zr_12_61 ef8 rfl rfl rfl ?_
      refine zw_push zr_12_64 ?_
      refine zw_16 zr_12_65 (by omega) ?_
      refine zw_47 (c := 45) zr_12_66 rfl ⟨rfl, by decide, rfl⟩ ?_
      intro m15 em15
      have hIm15 : zInv m15 := by rw [em15]; exact hIm6.bd (r := 45) (k := 6) (lo := 0) (hi := 50) rfl (by omega) (by decide) (by decide) (by decide)
      have hFm15 : zFr W_12 m0 m15 := by rw [em15]; exact hFm6.up rfl
      have km15_45_7 : m15 45 7 = ((g0 + 1) - 1) := by rw [em15, zUp_ne (by omega)]; exact km6_45_7
      have km15_45_6 : m15 45 6 = (f8 + 1) := by rw [em15]; exact zUp_eq _ _ _ _
      clear em15
      refine zw_42 zr_12_69 ?_
      refine zw_R zr_12_77 (by decide) zm_12 (v := (9, 0)) rfl ?_
      rw [← hQ]; exact ⟨rfl, hIm15, hFm15, by omega⟩
  · intro h16
    refine zw_7 zr_12_9 rfl ?_
    refine zw_push zr_12_10 ?_
    refine zw_C zr_12_11 (Or.inl rfl) zm_5 rfl rfl ⟨Nat.le_of_ble_eq_true rfl, Nat.le_of_ble_eq_true rfl, Nat.le_of_ble_eq_true rfl, rfl, by decide⟩ (by omega) (P := (fun v m' => zW E (d) 12 14 [(2, 45)] (if v.1 = 9 then [] else v :: []) m' Q)) ?_ (fun _ _ h => h)
    generalize hQ1 : (fun v m' => zW E (d) 12 14 [(2, 45)] (if v.1 = 9 then [] else v :: []) m' Q) = Q1
    show zW E (d - 1) 5 0 [(2, 45), (0, 3)] [] m0 Q1
    refine zw_7 zr_5_0 rfl ?_
    obtain ⟨f17, ef17⟩ : ∃ v, m0 45 1 = v := ⟨_, rfl⟩
    have bf17 := hI0.fi (c := 45) (k := 1) rfl
    rw [ef17] at bf17
    refine zw_46i zr_5_1 ef17 rfl rfl rfl ?_
    refine zw_push zr_5_4 ?_
    refine zw_41_4 zr_5_5 ?_ ?_
    · intro h18
      refine zw_R zr_5_21 (by decide) zm_5 (v := (9, 0)) rfl ?_
      rw [← hQ1]
      show zW E (d) 12 14 [(2, 45)] [] m0 Q
      refine zw_R zr_12_14 (by decide) zm_12 (v := (9, 0)) rfl ?_
      rw [← hQ]; exact ⟨rfl, hI0, hF0, by omega⟩
    · intro h19
      refine zw_7 zr_5_8 rfl ?_
      refine zw_7 zr_5_9 rfl ?_
      refine zw_46i zr_5_10 hg1 rfl rfl rfl ?_
      refine zw_push zr_5_13 ?_
      refine zw_18 zr_5_15 (by omega) ?_
      refine zw_3 zr_5_16 rfl ?_
      refine zw_16 zr_5_17 (by omega) ?_
      refine zw_47 (c := 45) zr_5_18 rfl ⟨rfl, by decide, rfl⟩ ?_
      intro m20 em20
      have hIm20 : zInv m20 := by rw [em20]; exact hI0.any (by omega) rfl (by decide) (by decide)
      have hFm20 : zFr W_12 m0 m20 := by rw [em20]; exact hF0.up rfl
      have km20_45_7 : m20 45 7 = g0 := by rw [em20, zUp_ne (by omega)]; exact hg0
      have km20_45_6 : m20 45 6 = g1 := by rw [em20, zUp_ne (by omega)]; exact hg1
      have km20_45_1 : m20 45 1 = ((g1 * 10) + 3) := by rw [em20]; exact zUp_eq _ _ _ _
      clear em20
      refine zw_R zr_5_21 (by decide) zm_5 (v := (9, 0)) rfl ?_
      rw [← hQ1]
      show zW E (d) 12 14 [(2, 45)] [] m20 Q
      refine zw_R zr_12_14 (by decide) zm_12 (v := (9, 0)) rfl ?_
      rw [← hQ]; exact ⟨rfl, hIm20, hFm20, by omega⟩
theorem gr_13 (E : zE) : ∀ d, rs_13 E d ∧ rs_14 E d ∧ rs_12 E d := by
  intro d
  induction d with
  | zero => exact ⟨(by intro m0 a0 g0 hd; exfalso; omega), (by intro m0 g0 hd; exfalso; omega), (by intro m0 g0 g1 hd; exfalso; omega)⟩
  | succ d ih => exact ⟨tr_13 (d := d + 1) ih.1 ih.2.1 ih.2.2, tr_14 (d := d + 1) ih.1 ih.2.1 ih.2.2, tr_12 (d := d + 1) ih.1 ih.2.1 ih.2.2⟩
theorem th_13 {E : zE} {d : Nat} {m0 : zM} {a0 : Int} {g0 : Int} (hd : (10 * (8 - g0) + (6 - a0)).toNat + 6 ≤ d) (hI0 : zInv m0) (hg0 : m0 45 7 = g0) (ha0 : 0 ≤ a0 ∧ a0 ≤ 5) : zC E d 13 [(2, 45), (0, a0)] m0 (fun v m' => v = (9, 0) ∧ zInv m' ∧ zFr W_13 m0 m' ∧ (m' 45 7 = g0)) := (gr_13 E d).1 m0 a0 g0 hd hI0 hg0 ha0
theorem th_14 {E : zE} {d : Nat} {m0 : zM} {g0 : Int} (hd : (10 * (8 - g0)).toNat + 6 ≤ d) (hI0 : zInv m0) (hg0 : m0 45 7 = g0) : zC E d 14 [(2, 45)] m0 (fun v m' => v = (9, 0) ∧ zInv m' ∧ zFr W_14 m0 m' ∧ (m' 45 7 = g0)) := (gr_13 E d).2.1 m0 g0 hd hI0 hg0
theorem th_12 {E : zE} {d : Nat} {m0 : zM} {g0 : Int} {g1 : Int} (hd : (10 * (8 - g0)).toNat + 5 ≤ d) (hI0 : zInv m0) (hg0 : m0 45 7 = g0) (hg1 : m0 45 6 = g1) (hp0 : g1 ≤ 49) : zC E d 12 [(2, 45)] m0 (fun v m' => v = (9, 0) ∧ zInv m' ∧ zFr W_12 m0 m' ∧ (m' 45 7 = g0)) := (gr_13 E d).2.2 m0 g0 g1 hd hI0 hg0 hg1 hp0
