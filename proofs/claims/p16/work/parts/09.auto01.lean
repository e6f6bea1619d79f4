abbrev W_150 : List (Nat × Nat) := [(70, 1000)]
set_option maxHeartbeats 8000000 in
theorem th_150 {E : zE} {d : Nat} {m0 : zM} {a0 : Int} {a1 : Int} (hd : 3 ≤ d) (hI0 : zInv m0) (ha0 : (-2147483648) ≤ a0 ∧ a0 ≤ 2147483647) (ha1 : (-2147483648) ≤ a1 ∧ a1 ≤ 2147483647) : zC E d 150 [(2, 69), (0, a0), (0, a1)] m0 (fun v m' => ∃ r : Int, v = (0, r) ∧ (-4) ≤ r ∧ r ≤ 50 ∧ zInv m' ∧ zFr W_150 m0 m') := by
  have hF0 : zFr W_150 m0 m0 := zFr.rfl
  generalize hQ : (fun (v : zV) (m' : zM) => ∃ r : Int, v = (0, r) ∧ (-4) ≤ r ∧ r ≤ 50 ∧ zInv m' ∧ zFr W_150 m0 m') = Q
  show zW E d 150 0 [(2, 69), (0, a0), (0, a1), (9, 0)] [] m0 Q
  refine zw_3 zr_150_0 rfl ?_
  refine zw_C zr_150_1 (Or.inr rfl) zm_148 rfl rfl ⟨Nat.le_of_ble_eq_true rfl, Nat.le_of_ble_eq_true rfl, Nat.le_of_ble_eq_true rfl, rfl, by decide⟩ (by omega) (P := (fun v m' => zW E (d) 150 4 [(2, 69), (0, a0), (0, a1), (9, 0)] (if v.1 = 9 then [] else v :: []) m' Q)) ?_ (fun _ _ h => h)
  generalize hQ1 : (fun v m' => zW E (d) 150 4 [(2, 69), (0, a0), (0, a1), (9, 0)] (if v.1 = 9 then [] else v :: []) m' Q) = Q1
  show zW E (d - 1) 148 0 [(0, a0)] [] m0 Q1
  refine zw_3 zr_148_0 rfl ?_
  refine zw_36 zr_148_1 ?_
  refine zw_push zr_148_2 ?_
  refine zw_push zr_148_3 ?_
  refine zw_C zr_148_6 (Or.inr rfl) zm_140 rfl rfl ⟨Nat.le_of_ble_eq_true rfl, Nat.le_of_ble_eq_true rfl, Nat.le_of_ble_eq_true rfl, rfl, by decide⟩ (by omega) (P := (fun v m' => zW E (d - 1) 148 9 [(0, a0)] (if v.1 = 9 then [] else v :: []) m' Q1)) ?_ (fun _ _ h => h)
  generalize hQ2 : (fun v m' => zW E (d - 1) 148 9 [(0, a0)] (if v.1 = 9 then [] else v :: []) m' Q1) = Q2
  show zW E (d - 1 - 1) 140 0 [(1, a0), (9, 0), (1, 0), (9, 0), (1, 3), (9, 0)] [] m0 Q2
  refine zw_5 zr_140_0 rfl ?_
  refine zw_5 zr_140_1 rfl ?_
  refine zw_39_0 zr_140_2 zr_140_3 ?_ ?_
  · intro h1
    refine zw_push zr_140_17 ?_
    refine zw_R zr_140_18 (by decide) zm_140 (v := (0, 0)) (zRetB (by omega)) ?_
    rw [← hQ2]
    show zW E (d - 1) 148 9 [(0, a0)] [(0, 0)] m0 Q1
    refine zw_R zr_148_9 (by decide) zm_148 (v := (0, 0)) (zRetB (by omega)) ?_
    rw [← hQ1]
    show zW E (d) 150 4 [(2, 69), (0, a0), (0, a1), (9, 0)] [(0, 0)] m0 Q
    refine zw_40_1 zr_150_4 ?_ ?_
    · intro h2
      refine zw_push zr_150_19 ?_
      refine zw_R zr_150_21 (by decide) zm_150 (v := (0, (-2))) rfl ?_
      rw [← hQ]; exact ⟨_, rfl, by omega, by omega, hI0, hF0⟩
    · intro h3; omega
  · intro h4
    refine zw_5 zr_140_6 rfl ?_
    refine zw_6 zr_140_7 rfl ?_
    refine zw_39_2 zr_140_9 zr_140_10 ?_ ?_
    · intro h5
      refine zw_push zr_140_17 ?_
      refine zw_R zr_140_18 (by decide) zm_140 (v := (0, 0)) (zRetB (by omega)) ?_
      rw [← hQ2]
      show zW E (d - 1) 148 9 [(0, a0)] [(0, 0)] m0 Q1
      refine zw_R zr_148_9 (by decide) zm_148 (v := (0, 0)) (zRetB (by omega)) ?_
      rw [← hQ1]
      show zW E (d) 150 4 [(2, 69), (0, a0), (0, a1), (9, 0)] [(0, 0)] m0 Q
      refine zw_40_1 zr_150_4 ?_ ?_
      · intro h6
        refine zw_push zr_150_19 ?_
        refine zw_R zr_150_21 (by decide) zm_150 (v := (0, (-2))) rfl ?_
        rw [← hQ]; exact ⟨_, rfl, by omega, by omega, hI0, hF0⟩
      · intro h7; omega
    · intro h8
      refine zw_push zr_140_13 ?_
      refine zw_42 zr_140_14 ?_
      refine zw_R zr_140_18 (by decide) zm_140 (v := (0, 1)) (zRetB (by omega)) ?_
      rw [← hQ2]
      show zW E (d - 1) 148 9 [(0, a0)] [(0, 1)] m0 Q1
      refine zw_R zr_148_9 (by decide) zm_148 (v := (0, 1)) (zRetB (by omega)) ?_
      rw [← hQ1]
      show zW E (d) 150 4 [(2, 69), (0, a0), (0, a1), (9, 0)] [(0, 1)] m0 Q
      refine zw_40_1 zr_150_4 ?_ ?_
      · intro h9; omega
      · intro h10
        refine zw_3 zr_150_7 rfl ?_
        refine zw_36 zr_150_8 ?_
        refine zw_push zr_150_9 ?_
        refine zw_push zr_150_10 ?_
        refine zw_C zr_150_13 (Or.inr rfl) zm_140 rfl rfl ⟨Nat.le_of_ble_eq_true rfl, Nat.le_of_ble_eq_true rfl, Nat.le_of_ble_eq_true rfl, rfl, by decide⟩ (by omega) (P := (fun v m' => zW E (d) 150 16 [(2, 69), (0, a0), (0, a1), (9, 0)] (if v.1 = 9 then [] else v :: []) m' Q)) ?_ (fun _ _ h => h)
        generalize hQ1 : (fun v m' => zW E (d) 150 16 [(2, 69), (0, a0), (0, a1), (9, 0)] (if v.1 = 9 then [] else v :: []) m' Q) = Q1
        show zW E (d - 1) 140 0 [(1, a1), (9, 0), (1, 0), (9, 0), (1, 127), (9, 0)] [] m0 Q1
        refine zw_5 zr_140_0 rfl ?_
        refine zw_5 zr_140_1 rfl ?_
        refine zw_39_0 zr_140_2 zr_140_3 ?_ ?_
        · intro h11
          refine zw_push zr_140_17 ?_
          refine zw_R zr_140_18 (by decide) zm_140 (v := (0, 0)) (zRetB (by omega)) ?_
          rw [← hQ1]
          show zW E (d) 150 16 [(2, 69), (0, a0), (0, a1), (9, 0)] [(0, 0)] m0 Q
          refine zw_40_4 zr_150_16 ?_ ?_
          · intro h12; omega
          · intro h13
            refine zw_push zr_150_19 ?_
            refine zw_R zr_150_21 (by decide) zm_150 (v := (0, (-2))) rfl ?_
            rw [← hQ]; exact ⟨_, rfl, by omega, by omega, hI0, hF0⟩
        · intro h14
          refine zw_5 zr_140_6 rfl ?_
          refine zw_6 zr_140_7 rfl ?_
          refine zw_39_2 zr_140_9 zr_140_10 ?_ ?_
          · intro h15
            refine zw_push zr_140_17 ?_
            refine zw_R zr_140_18 (by decide) zm_140 (v := (0, 0)) (zRetB (by omega)) ?_
            rw [← hQ1]
            show zW E (d) 150 16 [(2, 69), (0, a0), (0, a1), (9, 0)] [(0, 0)] m0 Q
            refine zw_40_4 zr_150_16 ?_ ?_
            · intro h16; omega
            · intro h17
              refine zw_push zr_150_19 ?_
              refine zw_R zr_150_21 (by decide) zm_150 (v := (0, (-2))) rfl ?_
              rw [← hQ]; exact ⟨_, rfl, by omega, by omega, hI0, hF0⟩
          · intro h18
            refine zw_push zr_140_13 ?_
            refine zw_42 zr_140_14 ?_
            refine zw_R zr_140_18 (by decide) zm_140 (v := (0, 1)) (zRetB (by omega)) ?_
            rw [← hQ1]
            show zW E (d) 150 16 [(2, 69), (0, a0), (0, a1), (9, 0)] [(0, 1)] m0 Q
            refine zw_40_4 zr_150_16 ?_ ?_
            · intro h19
              refine zw_7 zr_150_22 rfl ?_
              refine zw_46r (s := 70) zr_150_23 rfl rfl rfl rfl ?_
              refine zw_push zr_150_26 ?_
              refine zw_push zr_150_29 ?_
              refine zw_3 zr_150_31 rfl ?_
              refine zw_18 zr_150_32 (by omega) ?_
              refine zw_16 zr_150_33 (by omega) ?_
              refine zw_push zr_150_34 ?_
              refine zw_16 zr_150_35 (by omega) ?_
              refine zw_48 (c := 70) (len := 826) zr_150_36 rfl rfl (by omega) (by omega) ?_
              intro x20 ex20
              have bx20 := ib_70_s1 hI0 (k := (((450 + (52 * a0)) + 1)).toNat) (by omega)
              rw [← ex20] at bx20
              clear ex20
              refine zw_9 (L' := [(2, 69), (0, a0), (0, a1), (0, x20)]) zr_150_37 (Nat.le_of_ble_eq_true rfl) rfl ?_
              refine zw_3 zr_150_38 rfl ?_
              refine zw_push zr_150_39 ?_
              refine zw_41_4 zr_150_41 ?_ ?_
              · intro h21
                refine zw_7 zr_150_47 rfl ?_
                refine zw_46r (s := 70) zr_150_48 rfl rfl rfl rfl ?_
                refine zw_push zr_150_51 ?_
                refine zw_push zr_150_54 ?_
                refine zw_3 zr_150_56 rfl ?_
                refine zw_18 zr_150_57 (by omega) ?_
                refine zw_16 zr_150_58 (by omega) ?_
                refine zw_push zr_150_59 ?_
                refine zw_16 zr_150_60 (by omega) ?_
                refine zw_3 zr_150_61 rfl ?_
                refine zw_16 zr_150_62 (by omega) ?_
                refine zw_3 zr_150_63 rfl ?_
                refine zw_49 (c := 70) (len := 826) zr_150_64 rfl rfl (by omega) (by omega) ?_
                intro m22 em22
                have hIm22 : zInv m22 := by rw [em22]; exact iu_70_s2 hI0 (by omega) (by omega)
                have hFm22 : zFr W_150 m0 m22 := by rw [em22]; exact hF0.any rfl
                clear em22
                refine zw_7 zr_150_65 rfl ?_
                refine zw_46r (s := 70) zr_150_66 rfl rfl rfl rfl ?_
                refine zw_push zr_150_69 ?_
                refine zw_push zr_150_72 ?_
                refine zw_3 zr_150_74 rfl ?_
                refine zw_18 zr_150_75 (by omega) ?_
                refine zw_16 zr_150_76 (by omega) ?_
                refine zw_push zr_150_77 ?_
                refine zw_16 zr_150_78 (by omega) ?_
                refine zw_3 zr_150_79 rfl ?_
                refine zw_push zr_150_80 ?_
                refine zw_16 zr_150_81 (by omega) ?_
                refine zw_49 (c := 70) (len := 826) zr_150_82 rfl rfl (by omega) (by omega) ?_
                intro m23 em23
                have hIm23 : zInv m23 := by rw [em23]; exact iu_70_s1 hIm22 (by omega) (by omega)
                have hFm23 : zFr W_150 m0 m23 := by rw [em23]; exact hFm22.any rfl
                clear em23
                refine zw_3 zr_150_83 rfl ?_
                refine zw_push zr_150_84 ?_
                refine zw_16 zr_150_85 (by omega) ?_
                refine zw_R zr_150_86 (by decide) zm_150 (v := (0, (x20 + 1))) rfl ?_
                rw [← hQ]; exact ⟨_, rfl, by omega, by omega, hIm23, hFm23⟩
              · intro h24
                refine zw_push zr_150_44 ?_
                refine zw_R zr_150_46 (by decide) zm_150 (v := (0, (-4))) rfl ?_
                rw [← hQ]; exact ⟨_, rfl, by omega, by omega, hI0, hF0⟩
            · intro h25; omega

abbrev W_107 : List (Nat × Nat) := [(10, 1000)]
set_option maxHeartbeats 8000000 in
theorem th_107 {E : zE} {d : Nat} {m0 : zM} {a0 : Int} (hd : 3 ≤ d) (hI0 : zInv m0) (ha0 : (-2147483648) ≤ a0 ∧ a0 ≤ 2147483647) : zC E d 107 [(2, 0), (0, a0)] m0 (fun v m' => ∃ r : Int, v = (0, r) ∧ (-2) ≤ r ∧ r ≤ 50 ∧ zInv m' ∧ zFr W_107 m0 m') := by
  have hF0 : zFr W_107 m0 m0 := zFr.rfl
  generalize hQ : (fun (v : zV) (m' : zM) => ∃ r : Int, v = (0, r) ∧ (-2) ≤ r ∧ r ≤ 50 ∧ zInv m' ∧ zFr W_107 m0 m') = Q
  show zW E d 107 0 [(2, 0), (0, a0), (9, 0)] [] m0 Q
  refine zw_3 zr_107_0 rfl ?_
  refine zw_C zr_107_1 (Or.inr rfl) zm_104 rfl rfl ⟨Nat.le_of_ble_eq_true rfl, Nat.le_of_ble_eq_true rfl, Nat.le_of_ble_eq_true rfl, rfl, by decide⟩ (by omega) (P := (fun v m' => zW E (d) 107 4 [(2, 0), (0, a0), (9, 0)] (if v.1 = 9 then [] else v :: []) m' Q)) ?_ (fun _ _ h => h)
  generalize hQ1 : (fun v m' => zW E (d) 107 4 [(2, 0), (0, a0), (9, 0)] (if v.1 = 9 then [] else v :: []) m' Q) = Q1
  show zW E (d - 1) 104 0 [(0, a0)] [] m0 Q1
  refine zw_3 zr_104_0 rfl ?_
  refine zw_push zr_104_1 ?_
  refine zw_push zr_104_2 ?_
  refine zw_C zr_104_3 (Or.inr rfl) zm_100 rfl rfl ⟨Nat.le_of_ble_eq_true rfl, Nat.le_of_ble_eq_true rfl, Nat.le_of_ble_eq_true rfl, rfl, by decide⟩ (by omega) (P := (fun v m' => zW E (d - 1) 104 6 [(0, a0)] (if v.1 = 9 then [] else v :: []) m' Q1)) ?_ (fun _ _ h => h)
  generalize hQ2 : (fun v m' => zW E (d - 1) 104 6 [(0, a0)] (if v.1 = 9 then [] else v :: []) m' Q1) = Q2
  show zW E (d - 1 - 1) 100 0 [(0, a0), (0, 0), (0, 3)] [] m0 Q2
  refine zw_3 zr_100_0 rfl ?_
  refine zw_3 zr_100_1 rfl ?_
  refine zw_41_0 zr_100_2 ?_ ?_
  · intro h1
    refine zw_push zr_100_14 ?_
    refine zw_R zr_100_15 (by decide) zm_100 (v := (0, 0)) (zRetB (by omega)) ?_
    rw [← hQ2]
    show zW E (d - 1) 104 6 [(0, a0)] [(0, 0)] m0 Q1
    refine zw_R zr_104_6 (by decide) zm_104 (v := (0, 0)) (zRetB (by omega)) ?_
    rw [← hQ1]
    show zW E (d) 107 4 [(2, 0), (0, a0), (9, 0)] [(0, 0)] m0 Q
    refine zw_40_4 zr_107_4 ?_ ?_
    · intro h2; omega
    · intro h3
      refine zw_push zr_107_7 ?_
      refine zw_R zr_107_9 (by decide) zm_107 (v := (0, (-2))) rfl ?_
      rw [← hQ]; exact ⟨_, rfl, by omega, by omega, hI0, hF0⟩
  · intro h4
    refine zw_3 zr_100_5 rfl ?_
    refine zw_3 zr_100_6 rfl ?_
    refine zw_41_2 zr_100_7 ?_ ?_
    · intro h5
      refine zw_push zr_100_14 ?_
      refine zw_R zr_100_15 (by decide) zm_100 (v := (0, 0)) (zRetB (by omega)) ?_
      rw [← hQ2]
      show zW E (d - 1) 104 6 [(0, a0)] [(0, 0)] m0 Q1
      refine zw_R zr_104_6 (by decide) zm_104 (v := (0, 0)) (zRetB (by omega)) ?_
      rw [← hQ1]
      show zW E (d) 107 4 [(2, 0), (0, a0), (9, 0)] [(0, 0)] m0 Q
      refine zw_40_4 zr_107_4 ?_ ?_
      · intro h6; omega
      · intro h7
        refine zw_push zr_107_7 ?_
        refine zw_R zr_107_9 (by decide) zm_107 (v := (0, (-2))) rfl ?_
        rw [← hQ]; exact ⟨_, rfl, by omega, by omega, hI0, hF0⟩
    · intro h8
      refine zw_push zr_100_10 ?_
      refine zw_42 zr_100_11 ?_
      refine zw_R zr_100_15 (by decide) zm_100 (v := (0, 1)) (zRetB (by omega)) ?_
      rw [← hQ2]
      show zW E (d - 1) 104 6 [(0, a0)] [(0, 1)] m0 Q1
      refine zw_R zr_104_6 (by decide) zm_104 (v := (0, 1)) (zRetB (by omega)) ?_
      rw [← hQ1]
      show zW E (d) 107 4 [(2, 0), (0, a0), (9, 0)] [(0, 1)] m0 Q
      refine zw_40_4 zr_107_4 ?_ ?_
      · intro h9
        refine zw_7 zr_107_10 rfl ?_
        refine zw_46r (s := 1) zr_107_11 rfl rfl rfl rfl ?_
        refine zw_46r (s := 10) zr_107_14 rfl rfl rfl rfl ?_
        refine zw_3 zr_107_17 rfl ?_
        refine zw_48 (c := 10) (len := 4) zr_107_18 rfl rfl (by omega) (by omega) ?_
        intro x10 ex10
        have bx10 := ib_10 hI0 (k := (a0).toNat) (by omega)
        rw [← ex10] at bx10
        clear ex10
        refine zw_9 (L' := [(2, 0), (0, a0), (0, x10)]) zr_107_19 (Nat.le_of_ble_eq_true rfl) rfl ?_
        refine zw_7 zr_107_20 rfl ?_
        refine zw_46r (s := 1) zr_107_21 rfl rfl rfl rfl ?_
        refine zw_46r (s := 10) zr_107_24 rfl rfl rfl rfl ?_
        refine zw_3 zr_107_27 rfl ?_
        refine zw_push zr_107_28 ?_
        refine zw_49 (c := 10) (len := 4) zr_107_29 rfl rfl (by omega) (by omega) ?_
        intro m11 em11
        have hIm11 : zInv m11 := by rw [em11]; exact iu_10 hI0 (by omega)
        have hFm11 : zFr W_107 m0 m11 := by rw [em11]; exact hF0.any rfl
        clear em11
        refine zw_3 zr_107_30 rfl ?_
        refine zw_R zr_107_31 (by decide) zm_107 (v := (0, x10)) rfl ?_
        rw [← hQ]; exact ⟨_, rfl, by omega, by omega, hIm11, hFm11⟩
      · intro h12; omega

abbrev W_151 : List (Nat × Nat) := [(70, 1000)]
set_option maxHeartbeats 8000000 in
theorem th_151 {E : zE} {d : Nat} {m0 : zM} {a0 : Int} (hd : 3 ≤ d) (hI0 : zInv m0) (ha0 : (-2147483648) ≤ a0 ∧ a0 ≤ 2147483647) : zC E d 151 [(2, 69), (0, a0)] m0 (fun v m' => ∃ r : Int, v = (0, r) ∧ (-2) ≤ r ∧ r ≤ 50 ∧ zInv m' ∧ zFr W_151 m0 m') := by
  have hF0 : zFr W_151 m0 m0 := zFr.rfl
  generalize hQ : (fun (v : zV) (m' : zM) => ∃ r : Int, v = (0, r) ∧ (-2) ≤ r ∧ r ≤ 50 ∧ zInv m' ∧ zFr W_151 m0 m') = Q
  show zW E d 151 0 [(2, 69), (0, a0), (9, 0)] [] m0 Q
  refine zw_3 zr_151_0 rfl ?_
  refine zw_C zr_151_1 (Or.inr rfl) zm_148 rfl rfl ⟨Nat.le_of_ble_eq_true rfl, Nat.le_of_ble_eq_true rfl, Nat.le_of_ble_eq_true rfl, rfl, by decide⟩ (by omega) (P := (fun v m' => zW E (d) 151 4 [(2, 69), (0, a0), (9, 0)] (if v.1 = 9 then [] else v :: []) m' Q)) ?_ (fun _ _ h => h)
  generalize hQ1 : (fun v m' => zW E (d) 151 4 [(2, 69), (0, a0), (9, 0)] (if v.1 = 9 then [] else v :: []) m' Q) = Q1
  show zW E (d - 1) 148 0 [(0, a0)] [] m0 Q1
  refine zw_3 zr_148_0 rfl ?_
  refine zw_36 zr_148_1 ?_
  refine zw_push zr_148_2 ?_
  refine zw_push zr_148_3 ?_
  refine zw_C zr_148_6 (Or.inr rfl) zm_140 rfl rfl ⟨Nat.le_of_ble_eq_true rfl, Nat.le_of_ble_eq_true rfl, Nat.le_of_ble_eq_true rfl, rfl, by decide⟩ (by omega) (P := (fun v m' => zW E (d - 1) 148 9 [(0, a0)] (if v.1 = 9 then [] else v :: []) m' Q1)) ?_ (fun _ _ h => h)
  generalize hQ2 : (fun v m' => zW E (d - 1) 148 9 [(0, a0)] (if v.1 = 9 then [] else v :: []) m' Q1) = Q2
  show zW E (d - 1 - 1) 140 0 [(1, a0), (9, 0), (1, 0), (9, 0), (1, 3), (9, 0)] [] m0 Q2
  refine zw_5 zr_140_0 rfl ?_
  refine zw_5 zr_140_1 rfl ?_
  refine zw_39_0 zr_140_2 zr_140_3 ?_ ?_
  · intro h1
    refine zw_push zr_140_17 ?_
    refine zw_R zr_140_18 (by decide) zm_140 (v := (0, 0)) (zRetB (by omega)) ?_
    rw [← hQ2]
    show zW E (d - 1) 148 9 [(0, a0)] [(0, 0)] m0 Q1
    refine zw_R zr_148_9 (by decide) zm_148 (v := (0, 0)) (zRetB (by omega)) ?_
    rw [← hQ1]
    show zW E (d) 151 4 [(2, 69), (0, a0), (9, 0)] [(0, 0)] m0 Q
    refine zw_40_4 zr_151_4 ?_ ?_
    · intro h2; omega
    · intro h3
      refine zw_push zr_151_7 ?_
      refine zw_R zr_151_9 (by decide) zm_151 (v := (0, (-2))) rfl ?_
      rw [← hQ]; exact ⟨_, rfl, by omega, by omega, hI0, hF0⟩
  · intro h4
    refine zw_5 zr_140_6 rfl ?_
    refine zw_6 zr_140_7 rfl ?_
    refine zw_39_2 zr_140_9 zr_140_10 ?_ ?_
    · intro h5
      refine zw_push zr_140_17 ?_
      refine zw_R zr_140_18 (by decide) zm_140 (v := (0, 0)) (zRetB (by omega)) ?_
      rw [← hQ2]
      show zW E (d - 1) 148 9 [(0, a0)] [(0, 0)] m0 Q1
      refine zw_R zr_148_9 (by decide) zm_148 (v := (0, 0)) (zRetB (by omega)) ?_
      rw [← hQ1]
      show zW E (d) 151 4 [(2, 69), (0, a0), (9, 0)] [(0, 0)] m0 Q
      refine zw_40_4 zr_151_4 ?_ ?_
      · intro h6; omega
      · intro h7
        refine zw_push zr_151_7 ?_
        refine zw_R zr_151_9 (by decide) zm_151 (v := (0, (-2))) rfl ?_
        rw [← hQ]; exact ⟨_, rfl, by omega, by omega, hI0, hF0⟩
    · intro h8
      refine zw_push zr_140_13 ?_
      refine zw_42 zr_140_14 ?_
      refine zw_R zr_140_18 (by decide) zm_140 (v := (0, 1)) (zRetB (by omega)) ?_
      rw [← hQ2]
      show zW E (d - 1) 148 9 [(0, a0)] [(0, 1)] m0 Q1
      refine zw_R zr_148_9 (by decide) zm_148 (v := (0, 1)) (zRetB (by omega)) ?_
      rw [← hQ1]
      show zW E (d) 151 4 [(2, 69), (0, a0), (9, 0)] [(0, 1)] m0 Q
      refine zw_40_4 zr_151_4 ?_ ?_
      · intro h9
        refine zw_7 zr_151_10 rfl ?_
        refine zw_46r (s := 70) zr_151_11 rfl rfl rfl rfl ?_
        refine zw_push zr_151_14 ?_
        refine zw_push zr_151_17 ?_
        refine zw_3 zr_151_19 rfl ?_
        refine zw_18 zr_151_20 (by omega) ?_
        refine zw_16 zr_151_21 (by omega) ?_
        refine zw_push zr_151_22 ?_
        refine zw_16 zr_151_23 (by omega) ?_
        refine zw_48 (c := 70) (len := 826) zr_151_24 rfl rfl (by omega) (by omega) ?_
        intro x10 ex10
        have bx10 := ib_70_s1 hI0 (k := (((450 + (52 * a0)) + 1)).toNat) (by omega)
        rw [← ex10] at bx10
        clear ex10
        refine zw_9 (L' := [(2, 69), (0, a0), (0, x10)]) zr_151_25 (Nat.le_of_ble_eq_true rfl) rfl ?_
        refine zw_7 zr_151_26 rfl ?_
        refine zw_46r (s := 70) zr_151_27 rfl rfl rfl rfl ?_
        refine zw_push zr_151_30 ?_
        refine zw_push zr_151_33 ?_
        refine zw_3 zr_151_35 rfl ?_
        refine zw_18 zr_151_36 (by omega) ?_
        refine zw_16 zr_151_37 (by omega) ?_
        refine zw_push zr_151_38 ?_
        refine zw_16 zr_151_39 (by omega) ?_
        refine zw_push zr_151_40 ?_
        refine zw_49 (c := 70) (len := 826) zr_151_41 rfl rfl (by omega) (by omega) ?_
        intro m11 em11
        have hIm11 : zInv m11 := by rw [em11]; exact iu_70_s1 hI0 (by omega) (by omega)
        have hFm11 : zFr W_151 m0 m11 := by rw [em11]; exact hF0.any rfl
        clear em11
        refine zw_3 zr_151_42 rfl ?_
        refine zw_R zr_151_43 (by decide) zm_151 (v := (0, x10)) rfl ?_
        rw [← hQ]; exact ⟨_, rfl, by omega, by omega, hIm11, hFm11⟩
      · intro h12; omega

abbrev W_6 : List (Nat × Nat) := [(45, 6)]
set_option maxHeartbeats 8000000 in
theorem th_6 {E : zE} {d : Nat} {m0 : zM} (hd : 1 ≤ d) (hI0 : zInv m0) : zC E d 6 [(2, 45)] m0 (fun v m' => ∃ r : Int, v = (0, r) ∧ (-1) ≤ r ∧ r ≤ 127 ∧ zInv m' ∧ zFr W_6 m0 m' ∧ (r = -1 ∨ m' 45 6 ≤ 49)) := by
  have hF0 : zFr W_6 m0 m0 := zFr.rfl
  generalize hQ : (fun (v : zV) (m' : zM) => ∃ r : Int, v = (0, r) ∧ (-1) ≤ r ∧ r ≤ 127 ∧ zInv m' ∧ zFr W_6 m0 m' ∧ (r = -1 ∨ m' 45 6 ≤ 49)) = Q
  show zW E d 6 0 [(2, 45)] [] m0 Q
  refine zw_7 zr_6_0 rfl ?_
  obtain ⟨f1, ef1⟩ : ∃ v, m0 45 1 = v := ⟨_, rfl⟩
  have bf1 := hI0.fi (c := 45) (k := 1) rfl
  rw [ef1] at bf1
  refine zw_46i zr_6_1 ef1 rfl rfl rfl ?_
  refine zw_push zr_6_4 ?_
  refine zw_41_1 zr_6_5 ?_ ?_
  · intro h2
    obtain ⟨f5, ef5⟩ : ∃ v, m0 45 6 = v := ⟨_, rfl⟩
    have bf5 := ib_45_6 hI0
    rw [ef5] at bf5
    have lp10_6 : ∀ (nlp10_6 : Nat) (p4 : Int) (m3 : zM), zInv m3 → zFr W_6 m0 m3 → m3 45 1 = f1 → m3 45 6 = p4 → 0 ≤ p4 → p4 ≤ 50 → (50 - p4).toNat < nlp10_6 → zW E (d) 6 10 [(2, 45)] [] m3 Q := by
      intro nlp10_6
      induction nlp10_6 with
      | zero =>
        intros
        exact absurd (by assumption : _ < 0) (Nat.not_lt_zero _)
      | succ nlp10_6 ihlp10_6 =>
        intro p4 m3 hIm3 hFm3 km3_45_1 km3_45_6 lp4 up4 hmlp10_6
        refine zw_7 zr_6_10 rfl ?_
        refine zw_46i zr_6_11 km3_45_6 rfl rfl rfl ?_
        refine zw_7 zr_6_14 rfl ?_
        obtain ⟨f8, ef8⟩ : ∃ v, m3 45 5 = v := ⟨_, rfl⟩
        have bf8 := ib_45_5 hIm3
        rw [ef8] at bf8
        refine zw_46i zr_6_15 ef8 rfl rfl rfl ?_
        refine zw_41_3 zr_6_18 ?_ ?_
        · intro h9
          refine zw_7 zr_6_48 rfl ?_
          refine zw_46i zr_6_49 km3_45_6 rfl rfl rfl ?_
          refine zw_7 zr_6_52 rfl ?_
          refine zw_46i zr_6_53 ef8 rfl rfl rfl ?_
          refine zw_41_3 zr_6_56 ?_ ?_
          · intro h10
            refine zw_push zr_6_71 ?_
            refine zw_R zr_6_72 (by decide) zm_6 (v := (0, (-1))) rfl ?_
            rw [← hQ]; exact ⟨_, rfl, by omega, by omega, hIm3, hFm3, by omega⟩
          · intro h11
            refine zw_7 zr_6_59 rfl ?_
            refine zw_46r (s := 47) zr_6_60 rfl rfl rfl rfl ?_
            refine zw_7 zr_6_63 rfl ?_
            refine zw_46i zr_6_64 km3_45_6 rfl rfl rfl ?_
            refine zw_48 (c := 47) (len := 50) zr_6_67 rfl rfl (by omega) (by omega) ?_
            intro x12 ex12
            have bx12 := ib_47 hIm3 (k := (p4).toNat) (by omega)
            rw [← ex12] at bx12
            clear ex12
            refine zw_42 zr_6_68 ?_
            refine zw_R zr_6_72 (by decide) zm_6 (v := (0, x12)) rfl ?_
            rw [← hQ]; exact ⟨_, rfl, by omega, by omega, hIm3, hFm3, by omega⟩
        · intro h13
          refine zw_7 zr_6_21 rfl ?_
          refine zw_46r (s := 47) zr_6_22 rfl rfl rfl rfl ?_
          refine zw_7 zr_6_25 rfl ?_
          refine zw_46i zr_6_26 km3_45_6 rfl rfl rfl ?_
          refine zw_48 (c := 47) (len := 50) zr_6_29 rfl rfl (by omega) (by omega) ?_
          intro x14 ex14
          have bx14 := ib_47 hIm3 (k := (p4).toNat) (by omega)
          rw [← ex14] at bx14
          refine zw_push zr_6_30 ?_
          refine zw_41_4 zr_6_32 ?_ ?_
          · intro h15
            refine zw_7 zr_6_48 rfl ?_
            refine zw_46i zr_6_49 km3_45_6 rfl rfl rfl ?_
            refine zw_7 zr_6_52 rfl ?_
            refine zw_46i zr_6_53 ef8 rfl rfl rfl ?_
            refine zw_41_3 zr_6_56 ?_ ?_
            · intro h16
              refine zw_push zr_6_71 ?_
              refine zw_R zr_6_72 (by decide) zm_6 (v := (0, (-1))) rfl ?_
              rw [← hQ]; exact ⟨_, rfl, by omega, by omega, hIm3, hFm3, by omega⟩
            · intro h17
              refine zw_7 zr_6_59 rfl ?_
              refine zw_46r (s := 47) zr_6_60 rfl rfl rfl rfl ?_
              refine zw_7 zr_6_63 rfl ?_
              refine zw_46i zr_6_64 km3_45_6 rfl rfl rfl ?_
              refine zw_48k (c := 47) (len := 50) zr_6_67 rfl rfl (by omega) (by omega) rfl ex14.symm ?_
              refine zw_42 zr_6_68 ?_
              refine zw_R zr_6_72 (by decide) zm_6 (v := (0, x14)) rfl ?_
              rw [← hQ]; exact ⟨_, rfl, by omega, by omega, hIm3, hFm3, by omega⟩
          · intro h18
            refine zw_7 zr_6_35 rfl ?_
            refine zw_43 zr_6_36 rfl ?_
            refine zw_46i zr_6_37 km3_45_6 rfl rfl rfl ?_
            refine zw_push zr_6_40 ?_
            refine zw_16 zr_6_41 (by omega) ?_
            refine zw_47 (c := 45) zr_6_42 rfl ⟨rfl, by decide, rfl⟩ ?_
            intro m19 em19
            have hIm19 : zInv m19 := by rw [em19]; exact hIm3.bd (r := 45) (k := 6) (lo := 0) (hi := 50) rfl (by omega) (by decide) (by decide) (by decide)
            have hFm19 : zFr W_6 m0 m19 := by rw [em19]; exact hFm3.up rfl
            have km19_45_1 : m19 45 1 = f1 := by rw [em19, zUp_ne (by omega)]; exact km3_45_1
            have km19_45_5 : m19 45 5 = f8 := by rw [em19, zUp_ne (by omega)]; exact ef8
            have km19_45_6 : m19 45 6 = (p4 + 1) := by rw [em19]; exact zUp_eq _ _ _ _
            clear em19
            refine zw_42 zr_6_45 ?_
            exact zw_less (L := [(2, 45)]) ⟨Or.inr rfl, trivial⟩ (ihlp10_6 ((p4 + 1)) m19 hIm19 hFm19  km19_45_1 km19_45_6 (by omega) (by omega) (by omega))
    exact lp10_6 _ (f5) m0 hI0 hF0  ef1 ef5 (by omega) (by omega) (Nat.lt_succ_self _)
  · intro h20
    refine zw_push zr_6_8 ?_
    refine zw_R zr_6_9 (by decide) zm_6 (v := (0, (-1))) rfl ?_
    rw [← hQ]; exact ⟨_, rfl, by omega, by omega, hI0, hF0, by omega⟩

abbrev W_11 : List (Nat × Nat) := [(45, 8), (48, 1000)]
set_option maxHeartbeats 8000000 in
theorem th_11 {E : zE} {d : Nat} {m0 : zM} {a0 : Int} {a1 : Int} (hd : 2 ≤ d) (hI0 : zInv m0) (ha0 : 0 ≤ a0 ∧ a0 ≤ 50) (ha1 : 0 ≤ a1 ∧ a1 ≤ 50) : zC E d 11 [(2, 45), (0, a0), (0, a1)] m0 (fun v m' => v = (9, 0) ∧ zInv m' ∧ zFr W_11 m0 m') := by
  have hF0 : zFr W_11 m0 m0 := zFr.rfl
  generalize hQ : (fun (v : zV) (m' : zM) => v = (9, 0) ∧ zInv m' ∧ zFr W_11 m0 m') = Q
  show zW E d 11 0 [(2, 45), (0, a0), (0, a1), (9, 0)] [] m0 Q
  refine zw_3 zr_11_0 rfl ?_
  refine zw_push zr_11_1 ?_
  refine zw_17 zr_11_2 (by omega) ?_
  refine zw_9 (L' := [(2, 45), (0, a0), (0, a1), (0, (a1 - 1))]) zr_11_3 (Nat.le_of_ble_eq_true rfl) rfl ?_
  have lp4_3 : ∀ (nlp4_3 : Nat) (i1 : Int) (m2 : zM), zInv m2 → zFr W_11 m0 m2 → (-1) ≤ i1 → i1 ≤ 49 → (i1 - (-1)).toNat < nlp4_3 → zW E (d) 11 4 [(2, 45), (0, a0), (0, a1), (0, i1)] [] m2 Q := by
    intro nlp4_3
    induction nlp4_3 with
    | zero =>
      intros
      exact absurd (by assumption : _ < 0) (Nat.not_lt_zero _)
    | succ nlp4_3 ihlp4_3 =>
      intro i1 m2 hIm2 hFm2 li1 ui1 hmlp4_3
      refine zw_3 zr_11_4 rfl ?_
      refine zw_3 zr_11_5 rfl ?_
      refine zw_41_0 zr_11_6 ?_ ?_
      · intro h5
        refine zw_R zr_11_52 (by decide) zm_11 (v := (9, 0)) rfl ?_
        rw [← hQ]; exact ⟨rfl, hIm2, hFm2⟩
      · intro h6
        refine zw_7 zr_11_9 rfl ?_
        refine zw_46r (s := 47) zr_11_10 rfl rfl rfl rfl ?_
        refine zw_3 zr_11_13 rfl ?_
        refine zw_48 (c := 47) (len := 50) zr_11_14 rfl rfl (by omega) (by omega) ?_
        intro x7 ex7
        have bx7 := ib_47 hIm2 (k := (i1).toNat) (by omega)
        rw [← ex7] at bx7
        refine zw_push zr_11_15 ?_
        refine zw_41_4 zr_11_17 ?_ ?_
        · intro h8
          refine zw_7 zr_11_29 rfl ?_
          refine zw_46r (s := 47) zr_11_30 rfl rfl rfl rfl ?_
          refine zw_3 zr_11_33 rfl ?_
          refine zw_48k (c := 47) (len := 50) zr_11_34 rfl rfl (by omega) (by omega) rfl ex7.symm ?_
          refine zw_push zr_11_35 ?_
          refine zw_41_4 zr_11_37 ?_ ?_
          · intro h9
            refine zw_15 (c := (-1)) (L' := [(2, 45), (0, a0), (0, a1), (0, (i1 + (-1)))]) zr_11_46 rfl (by decide) (by omega) rfl ?_
            refine zw_42 zr_11_49 ?_
            exact zw_less (L := [(2, 45), (0, a0), (0, a1), (0, (i1 + (-1)))]) ⟨Or.inr rfl, Or.inr rfl, Or.inr rfl, Or.inr rfl, trivial⟩ (ihlp4_3 ((i1 + (-1))) m2 hIm2 hFm2   (by omega) (by omega) (by omega))
          · intro h10
            refine zw_7 zr_11_40 rfl ?_
            refine zw_push zr_11_41 ?_
            refine zw_C zr_11_43 (Or.inl rfl) zm_8 rfl rfl ⟨Nat.le_of_ble_eq_true rfl, Nat.le_of_ble_eq_true rfl, Nat.le_of_ble_eq_true rfl, rfl, by decide⟩ (by omega) (P := (fun v m' => zW E (d) 11 46 [(2, 45), (0, a0), (0, a1), (0, i1)] (if v.1 = 9 then [] else v :: []) m' Q)) ?_ (fun _ _ h => h)
            generalize hQ1 : (fun v m' => zW E (d) 11 46 [(2, 45), (0, a0), (0, a1), (0, i1)] (if v.1 = 9 then [] else v :: []) m' Q) = Q1
            show zW E (d - 1) 8 0 [(2, 45), (0, (-126))] [] m2 Q1
            refine zw_7 zr_8_0 rfl ?_
            obtain ⟨f11, ef11⟩ : ∃ v, m2 45 8 = v := ⟨_, rfl⟩
            have bf11 := ib_45_8 hIm2
            rw [ef11] at bf11
            refine zw_46i zr_8_1 ef11 rfl rfl rfl ?_
            refine zw_push zr_8_4 ?_
            refine zw_41_3 zr_8_6 ?_ ?_
            · intro h12
              refine zw_R zr_8_29 (by decide) zm_8 (v := (9, 0)) rfl ?_
              rw [← hQ1]
              show zW E (d) 11 46 [(2, 45), (0, a0), (0, a1), (0, i1)] [] m2 Q
              refine zw_15 (c := (-1)) (L' := [(2, 45), (0, a0), (0, a1), (0, (i1 + (-1)))]) zr_11_46 rfl (by decide) (by omega) rfl ?_
              refine zw_42 zr_11_49 ?_
              exact zw_less (L := [(2, 45), (0, a0), (0, a1), (0, (i1 + (-1)))]) ⟨Or.inr rfl, Or.inr rfl, Or.inr rfl, Or.inr rfl, trivial⟩ (ihlp4_3 ((i1 + (-1))) m2 hIm2 hFm2   (by omega) (by omega) (by omega))
            · intro h13
              refine zw_7 zr_8_9 rfl ?_
              refine zw_46r (s := 48) zr_8_10 rfl rfl rfl rfl ?_
              refine zw_7 zr_8_13 rfl ?_
              refine zw_46i zr_8_14 ef11 rfl rfl rfl ?_
              refine zw_3 zr_8_17 rfl ?_
              refine zw_49 (c := 48) (len := 50) zr_8_18 rfl rfl (by omega) (by omega) ?_
              intro m14 em14
              have hIm14 : zInv m14 := by rw [em14]; exact hIm2.any (by omega) rfl (by decide) (by decide)
              have hFm14 : zFr W_11 m0 m14 := by rw [em14]; exact hFm2.any rfl
              have km14_45_8 : m14 45 8 = f11 := by rw [em14, zUp_ne (by omega)]; exact ef11
              clear em14
              refine zw_7 zr_8_19 rfl ?_
              refine zw_43 zr_8_20 rfl ?_
              refine zw_46i zr_8_21 km14_45_8 rfl rfl rfl ?_
              refine zw_push zr_8_24 ?_
              refine zw_16 zr_8_25 (by omega) ?_
              refine zw_47 (c := 45) zr_8_26 rfl ⟨rfl, by decide, rfl⟩ ?_
              intro m15 em15
              have hIm15 : zInv m15 := by rw [em15]; exact hIm14.bd (r := 45) (k := 8) (lo := 0) (hi := 50) rfl (by omega) (by decide) (by decide) (by decide)
              have hFm15 : zFr W_11 m0 m15 := by rw [em15]; exact hFm14.up rfl
              have km15_45_8 : m15 45 8 = (f11 + 1) := by rw [em15]; exact zUp_eq _ _ _ _
              clear em15
              refine zw_R zr_8_29 (by decide) zm_8 (v := (9, 0)) rfl ?_
              rw [← hQ1]
              show zW E (d) 11 46 [(2, 45), (0, a0), (0, a1), (0, i1)] [] m15 Q
              refine zw_15 (c := (-1)) (L' := [(2, 45), (0, a0), (0, a1), (0, (i1 + (-1)))]) zr_11_46 rfl (by decide) (by omega) rfl ?_
              refine zw_42 zr_11_49 ?_
              exact zw_less (L := [(2, 45), (0, a0), (0, a1), (0, (i1 + (-1)))]) ⟨Or.inr rfl, Or.inr rfl, Or.inr rfl, Or.inr rfl, trivial⟩ (ihlp4_3 ((i1 + (-1))) m15 hIm15 hFm15   (by omega) (by omega) (by omega))
        · intro h16
          refine zw_7 zr_11_20 rfl ?_
          refine zw_push zr_11_21 ?_
          refine zw_C zr_11_23 (Or.inl rfl) zm_8 rfl rfl ⟨Nat.le_of_ble_eq_true rfl, Nat.le_of_ble_eq_true rfl, Nat.le_of_ble_eq_true rfl, rfl, by decide⟩ (by omega) (P := (fun v m' => zW E (d) 11 26 [(2, 45), (0, a0), (0, a1), (0, i1)] (if v.1 = 9 then [] else v :: []) m' Q)) ?_ (fun _ _ h => h)
          generalize hQ1 : (fun v m' => zW E (d) 11 26 [(2, 45), (0, a0), (0, a1), (0, i1)] (if v.1 = 9 then [] else v :: []) m' Q) = Q1
          show zW E (d - 1) 8 0 [(2, 45), (0, (-33))] [] m2 Q1
          refine zw_7 zr_8_0 rfl ?_
          obtain ⟨f17, ef17⟩ : ∃ v, m2 45 8 = v := ⟨_, rfl⟩
          have bf17 := ib_45_8 hIm2
          rw [ef17] at bf17
          refine zw_46i zr_8_1 ef17 rfl rfl rfl ?_
          refine zw_push zr_8_4 ?_
          refine zw_41_3 zr_8_6 ?_ ?_
          · intro h18
            refine zw_R zr_8_29 (by decide) zm_8 (v := (9, 0)) rfl ?_
            rw [← hQ1]
            show zW E (d) 11 26 [(2, 45), (0, a0), (0, a1), (0, i1)] [] m2 Q
            refine zw_42 zr_11_26 ?_
            refine zw_15 (c := (-1)) (L' := [(2, 45), (0, a0), (0, a1), (0, (i1 + (-1)))]) zr_11_46 rfl (by decide) (by omega) rfl ?_
            refine zw_42 zr_11_49 ?_
            exact zw_less (L := [(2, 45), (0, a0), (0, a1), (0, (i1 + (-1)))]) ⟨Or.inr rfl, Or.inr rfl, Or.inr rfl, Or.inr rfl, trivial⟩ (ihlp4_3 ((i1 + (-1))) m2 hIm2 hFm2   (by omega) (by omega) (by omega))
          · intro h19
            refine zw_7 zr_8_9 rfl ?_
            refine zw_46r (s := 48) zr_8_10 rfl rfl rfl rfl ?_
            refine zw_7 zr_8_13 rfl ?_
            refine zw_46i zr_8_14 ef17 rfl rfl rfl ?_
            refine zw_3 zr_8_17 rfl ?_
            refine zw_49 (c := 48) (len := 50) zr_8_18 rfl rfl (by omega) (by omega) ?_
            intro m20 em20
            have hIm20 : zInv m20 := by rw [em20]; exact hIm2.any (by omega) rfl (by decide) (by decide)
            have hFm20 : zFr W_11 m0 m20 := by rw [em20]; exact hFm2.any rfl
            have km20_45_8 : m20 45 8 = f17 := by rw [em20, zUp_ne (by omega)]; exact ef17
            clear em20
            refine zw_7 zr_8_19 rfl ?_
            refine zw_43 zr_8_20 rfl ?_
            refine zw_46i zr_8_21 km20_45_8 rfl rfl rfl ?_
            refine zw_push zr_8_24 ?_
            refine zw_16 zr_8_25 (by omega) ?_
            refine zw_47 (c := 45) zr_8_26 rfl ⟨rfl, by decide, rfl⟩ ?_
            intro m21 em21
            have hIm21 : zInv m21 := by rw [em21]; exact hIm20.bd (r := 45) (k := 8) (lo := 0) (hi := 50) rfl (by omega) (by decide) (by decide) (by decide)
            have hFm21 : zFr W_11 m0 m21 := by rw [em21]; exact hFm20.up rfl
            have km21_45_8 : m21 45 8 = (f17 + 1) := by rw [em21]; exact zUp_eq _ _ _ _
            clear em21
            refine zw_R zr_8_29 (by decide) zm_8 (v := (9, 0)) rfl ?_
            rw [← hQ1]
            show zW E (d) 11 26 [(2, 45), (0, a0), (0, a1), (0, i1)] [] m21 Q
            refine zw_42 zr_11_26 ?_
            refine zw_15 (c := (-1)) (L' := [(2, 45), (0, a0), (0, a1), (0, (i1 + (-1)))]) zr_11_46 rfl (by decide) (by omega) rfl ?_
            refine zw_42 zr_11_49 ?_
            exact zw_less (L := [(2, 45), (0, a0), (0, a1), (0, (i1 + (-1)))]) ⟨Or.inr rfl, Or.inr rfl, Or.inr rfl, Or.inr rfl, trivial⟩ (ihlp4_3 ((i1 + (-1))) m21 hIm21 hFm21   (by omega) (by omega) (by omega))
  exact lp4_3 _ ((a1 - 1)) m0 hI0 hF0   (by omega) (by omega) (Nat.lt_succ_self _)

abbrev W_9 : List (Nat × Nat) := [(45, 1), (45, 6), (45, 8), (48, 1000)]
set_option maxHeartbeats 8000000 in
theorem th_9 {E : zE} {d : Nat} {m0 : zM} (hd : 2 ≤ d) (hI0 : zInv m0) : zC E d 9 [(2, 45)] m0 (fun v m' => v = (9, 0) ∧ zInv m' ∧ zFr W_9 m0 m') := by
  have hF0 : zFr W_9 m0 m0 := zFr.rfl
  generalize hQ : (fun (v : zV) (m' : zM) => v = (9, 0) ∧ zInv m' ∧ zFr W_9 m0 m') = Q
  show zW E d 9 0 [(2, 45), (9, 0), (9, 0)] [] m0 Q
  refine zw_7 zr_9_0 rfl ?_
  obtain ⟨f1, ef1⟩ : ∃ v, m0 45 6 = v := ⟨_, rfl⟩
  have bf1 := ib_45_6 hI0
  rw [ef1] at bf1
  refine zw_46i zr_9_1 ef1 rfl rfl rfl ?_
  refine zw_9 (L' := [(2, 45), (0, f1), (9, 0)]) zr_9_4 (Nat.le_of_ble_eq_true rfl) rfl ?_
  refine zw_push zr_9_5 ?_
  refine zw_9 (L' := [(2, 45), (0, f1), (0, 0)]) zr_9_6 (Nat.le_of_ble_eq_true rfl) rfl ?_
  have lp7_5 : ∀ (nlp7_5 : Nat) (i2 p4 : Int) (m3 : zM), zInv m3 → zFr W_9 m0 m3 → m3 45 6 = p4 → (-2147483648) ≤ i2 → i2 ≤ 2147483647 → 0 ≤ p4 → p4 ≤ 50 → (50 - p4).toNat < nlp7_5 → zW E (d) 9 7 [(2, 45), (0, f1), (0, i2)] [] m3 Q := by
    intro nlp7_5
    induction nlp7_5 with
    | zero =>
      intros
      exact absurd (by assumption : _ < 0) (Nat.not_lt_zero _)
    | succ nlp7_5 ihlp7_5 =>
      intro i2 p4 m3 hIm3 hFm3 km3_45_6 li2 ui2 lp4 up4 hmlp7_5
      refine zw_7 zr_9_7 rfl ?_
      refine zw_46i zr_9_8 km3_45_6 rfl rfl rfl ?_
      refine zw_7 zr_9_11 rfl ?_
      obtain ⟨f7, ef7⟩ : ∃ v, m3 45 5 = v := ⟨_, rfl⟩
      have bf7 := ib_45_5 hIm3
      rw [ef7] at bf7
      refine zw_46i zr_9_12 ef7 rfl rfl rfl ?_
      refine zw_41_3 zr_9_15 ?_ ?_
      · intro h8
        refine zw_7 zr_9_99 rfl ?_
        refine zw_3 zr_9_100 rfl ?_
        refine zw_C zr_9_101 (Or.inl rfl) zm_8 rfl rfl ⟨Nat.le_of_ble_eq_true rfl, Nat.le_of_ble_eq_true rfl, Nat.le_of_ble_eq_true rfl, rfl, by decide⟩ (by omega) (P := (fun v m' => zW E (d) 9 104 [(2, 45), (0, f1), (0, i2)] (if v.1 = 9 then [] else v :: []) m' Q)) ?_ (fun _ _ h => h)
        generalize hQ1 : (fun v m' => zW E (d) 9 104 [(2, 45), (0, f1), (0, i2)] (if v.1 = 9 then [] else v :: []) m' Q) = Q1
        show zW E (d - 1) 8 0 [(2, 45), (0, i2)] [] m3 Q1
        refine zw_7 zr_8_0 rfl ?_
        obtain ⟨f9, ef9⟩ : ∃ v, m3 45 8 = v := ⟨_, rfl⟩
        have bf9 := ib_45_8 hIm3
        rw [ef9] at bf9
        refine zw_46i zr_8_1 ef9 rfl rfl rfl ?_
        refine zw_push zr_8_4 ?_
        refine zw_41_3 zr_8_6 ?_ ?_
        · intro h10
          refine zw_R zr_8_29 (by decide) zm_8 (v := (9, 0)) rfl ?_
          rw [← hQ1]
          show zW E (d) 9 104 [(2, 45), (0, f1), (0, i2)] [] m3 Q
          refine zw_R zr_9_104 (by decide) zm_9 (v := (9, 0)) rfl ?_
          rw [← hQ]; exact ⟨rfl, hIm3, hFm3⟩
        · intro h11
          refine zw_7 zr_8_9 rfl ?_
          refine zw_46r (s := 48) zr_8_10 rfl rfl rfl rfl ?_
          refine zw_7 zr_8_13 rfl ?_
          refine zw_46i zr_8_14 ef9 rfl rfl rfl ?_
          refine zw_3 zr_8_17 rfl ?_
          refine zw_49 (c := 48) (len := 50) zr_8_18 rfl rfl (by omega) (by omega) ?_
          intro m12 em12
          have hIm12 : zInv m12 := by rw [em12]; exact hIm3.any (by omega) rfl (by decide) (by decide)
          have hFm12 : zFr W_9 m0 m12 := by rw [em12]; exact hFm3.any rfl
          have km12_45_6 : m12 45 6 = p4 := by rw [em12, zUp_ne (by omega)]; exact km3_45_6
          have km12_45_5 : m12 45 5 = f7 := by rw [em12, zUp_ne (by omega)]; exact ef7
          have km12_45_8 : m12 45 8 = f9 := by rw [em12, zUp_ne (by omega)]; exact ef9
          clear em12
          refine zw_7 zr_8_19 rfl ?_
          refine zw_43 zr_8_20 rfl ?_
          refine zw_46i zr_8_21 km12_45_8 rfl rfl rfl ?_
          refine zw_push zr_8_24 ?_
          refine zw_16 zr_8_25 (by omega) ?_
          refine zw_47 (c := 45) zr_8_26 rfl ⟨rfl, by decide, rfl⟩ ?_
          intro m13 em13
          have hIm13 : zInv m13 := by rw [em13]; exact hIm12.bd (r := 45) (k := 8) (lo := 0) (hi := 50) rfl (by omega) (by decide) (by decide) (by decide)
          have hFm13 : zFr W_9 m0 m13 := by rw [em13]; exact hFm12.up rfl
          have km13_45_6 : m13 45 6 = p4 := by rw [em13, zUp_ne (by omega)]; exact km12_45_6
          have km13_45_5 : m13 45 5 = f7 := by rw [em13, zUp_ne (by omega)]; exact km12_45_5
          have km13_45_8 : m13 45 8 = (f9 + 1) := by rw [em13]; exact zUp_eq _ _ _ _
          clear em13
          refine zw_R zr_8_29 (by decide) zm_8 (v := (9, 0)) rfl ?_
          rw [← hQ1]
          show zW E (d) 9 104 [(2, 45), (0, f1), (0, i2)] [] m13 Q
          refine zw_R zr_9_104 (by decide) zm_9 (v := (9, 0)) rfl ?_
          rw [← hQ]; exact ⟨rfl, hIm13, hFm13⟩
      · intro h14
        refine zw_7 zr_9_18 rfl ?_
        refine zw_46r (s := 47) zr_9_19 rfl rfl rfl rfl ?_
        refine zw_7 zr_9_22 rfl ?_
        refine zw_46i zr_9_23 km3_45_6 rfl rfl rfl ?_
        refine zw_48 (c := 47) (len := 50) zr_9_26 rfl rfl (by omega) (by omega) ?_
        intro x15 ex15
        have bx15 := ib_47 hIm3 (k := (p4).toNat) (by omega)
        rw [← ex15] at bx15
        refine zw_push zr_9_27 ?_
        refine zw_41_0 zr_9_29 ?_ ?_
        · intro h16
          refine zw_7 zr_9_99 rfl ?_
          refine zw_3 zr_9_100 rfl ?_
          refine zw_C zr_9_101 (Or.inl rfl) zm_8 rfl rfl ⟨Nat.le_of_ble_eq_true rfl, Nat.le_of_ble_eq_true rfl, Nat.le_of_ble_eq_true rfl, rfl, by decide⟩ (by omega) (P := (fun v m' => zW E (d) 9 104 [(2, 45), (0, f1), (0, i2)] (if v.1 = 9 then [] else v :: []) m' Q)) ?_ (fun _ _ h => h)
          generalize hQ1 : (fun v m' => zW E (d) 9 104 [(2, 45), (0, f1), (0, i2)] (if v.1 = 9 then [] else v :: []) m' Q) = Q1
          show zW E (d - 1) 8 0 [(2, 45), (0, i2)] [] m3 Q1
          refine zw_7 zr_8_0 rfl ?_
          obtain ⟨f17, ef17⟩ : ∃ v, m3 45 8 = v := ⟨_, rfl⟩
          have bf17 := ib_45_8 hIm3
          rw [ef17] at bf17
          refine zw_46i zr_8_1 ef17 rfl rfl rfl ?_
          refine zw_push zr_8_4 ?_
          refine zw_41_3 zr_8_6 ?_ ?_
          · intro h18
            refine zw_R zr_8_29 (by decide) zm_8 (v := (9, 0)) rfl ?_
            rw [← hQ1]
            show zW E (d) 9 104 [(2, 45), (0, f1), (0, i2)] [] m3 Q
            refine zw_R zr_9_104 (by decide) zm_9 (v := (9, 0)) rfl ?_
            rw [← hQ]; exact ⟨rfl, hIm3, hFm3⟩
          · intro h19
            refine zw_7 zr_8_9 rfl ?_
            refine zw_46r (s := 48) zr_8_10 rfl rfl rfl rfl ?_
            refine zw_7 zr_8_13 rfl ?_
            refine zw_46i zr_8_14 ef17 rfl rfl rfl ?_
            refine zw_3 zr_8_17 rfl ?_
            refine zw_49 (c := 48) (len := 50) zr_8_18 rfl rfl (by omega) (by omega) ?_
            intro m20 em20
            have hIm20 : zInv m20 := by rw [em20]; exact hIm3.any (by omega) rfl (by decide) (by decide)
            have hFm20 : zFr W_9 m0 m20 := by rw [em20]; exact hFm3.any rfl
            have km20_45_6 : m20 45 6 = p4 := by rw [em20, zUp_ne (by omega)]; exact km3_45_6
            have km20_45_5 : m20 45 5 = f7 := by rw [em20, zUp_ne (by omega)]; exact ef7
            have km20_45_8 : m20 45 8 = f17 := by rw [em20, zUp_ne (by omega)]; exact ef17
            clear em20
            refine zw_7 zr_8_19 rfl ?_
            refine zw_43 zr_8_20 rfl ?_
            refine zw_46i zr_8_21 km20_45_8 rfl rfl rfl ?_
            refine zw_push zr_8_24 ?_
            refine zw_16 zr_8_25 (by omega) ?_
            refine zw_47 (c := 45) zr_8_26 rfl ⟨rfl, by decide, rfl⟩ ?_
            intro m21 em21
            have hIm21 : zInv m21 := by rw [em21]; exact hIm20.bd (r := 45) (k := 8) (lo := 0) (hi := 50) rfl (by omega) (by decide) (by decide) (by decide)
            have hFm21 : zFr W_9 m0 m21 := by rw [em21]; exact hFm20.up rfl
            have km21_45_6 : m21 45 6 = p4 := by rw [em21, zUp_ne (by omega)]; exact km20_45_6
            have km21_45_5 : m21 45 5 = f7 := by rw [em21, zUp_ne (by omega)]; exact km20_45_5
            have km21_45_8 : m21 45 8 = (f17 + 1) := by rw [em21]; exact zUp_eq _ _ _ _
            clear em21
            refine zw_R zr_8_29 (by decide) zm_8 (v := (9, 0)) rfl ?_
            rw [← hQ1]
            show zW E (d) 9 104 [(2, 45), (0, f1), (0, i2)] [] m21 Q
            refine zw_R zr_9_104 (by decide) zm_9 (v := (9, 0)) rfl ?_
            rw [← hQ]; exact ⟨rfl, hIm21, hFm21⟩
        · intro h22
          refine zw_7 zr_9_32 rfl ?_
          refine zw_46r (s := 47) zr_9_33 rfl rfl rfl rfl ?_
          refine zw_7 zr_9_36 rfl ?_
          refine zw_46i zr_9_37 km3_45_6 rfl rfl rfl ?_
          refine zw_48k (c := 47) (len := 50) zr_9_40 rfl rfl (by omega) (by omega) rfl ex15.symm ?_
          refine zw_push zr_9_41 ?_
          refine zw_41_2 zr_9_43 ?_ ?_
          · intro h23
            refine zw_7 zr_9_99 rfl ?_
            refine zw_3 zr_9_100 rfl ?_
            refine zw_C zr_9_101 (Or.inl rfl) zm_8 rfl rfl ⟨Nat.le_of_ble_eq_true rfl, Nat.le_of_ble_eq_true rfl, Nat.le_of_ble_eq_true rfl, rfl, by decide⟩ (by omega) (P := (fun v m' => zW E (d) 9 104 [(2, 45), (0, f1), (0, i2)] (if v.1 = 9 then [] else v :: []) m' Q)) ?_ (fun _ _ h => h)
            generalize hQ1 : (fun v m' => zW E (d) 9 104 [(2, 45), (0, f1), (0, i2)] (if v.1 = 9 then [] else v :: []) m' Q) = Q1
            show zW E (d - 1) 8 0 [(2, 45), (0, i2)] [] m3 Q1
            refine zw_7 zr_8_0 rfl ?_
            obtain ⟨f24, ef24⟩ : ∃ v, m3 45 8 = v := ⟨_, rfl⟩
            have bf24 := ib_45_8 hIm3
            rw [ef24] at bf24
            refine zw_46i zr_8_1 ef24 rfl rfl rfl ?_
            refine zw_push zr_8_4 ?_
            refine zw_41_3 zr_8_6 ?_ ?_
            · intro h25
              refine zw_R zr_8_29 (by decide) zm_8 (v := (9, 0)) rfl ?_
              rw [← hQ1]
              show zW E (d) 9 104 [(2, 45), (0, f1), (0, i2)] [] m3 Q
              refine zw_R zr_9_104 (by decide) zm_9 (v := (9, 0)) rfl ?_
              rw [← hQ]; exact ⟨rfl, hIm3, hFm3⟩
            · intro h26
              refine zw_7 zr_8_9 rfl ?_
              refine zw_46r (s := 48) zr_8_10 rfl rfl rfl rfl ?_
              refine zw_7 zr_8_13 rfl ?_
              refine zw_46i zr_8_14 ef24 rfl rfl rfl ?_
              refine zw_3 zr_8_17 rfl ?_
              refine zw_49 (c := 48) (len := 50) zr_8_18 rfl rfl (by omega) (by omega) ?_
              intro m27 em27
              have hIm27 : zInv m27 := by rw [em27]; exact hIm3.any (by omega) rfl (by decide) (by decide)
              have hFm27 : zFr W_9 m0 m27 := by rw [em27]; exact hFm3.any rfl
              have km27_45_6 : m27 45 6 = p4 := by rw [em27, zUp_ne (by omega)]; exact km3_45_6
              have km27_45_5 : m27 45 5 = f7 := by rw [em27, zUp_ne (by omega)]; exact ef7
              have km27_45_8 : m27 45 8 = f24 := by rw [em27, zUp_ne (by omega)]; exact ef24
              clear em27
              refine zw_7 zr_8_19 rfl ?_
              refine zw_43 zr_8_20 rfl ?_
              refine zw_46i zr_8_21 km27_45_8 rfl rfl rfl ?_
              refine zw_push zr_8_24 ?_
              refine zw_16 zr_8_25 (by omega) ?_
              refine zw_47 (c := 45) zr_8_26 rfl ⟨rfl, by decide, rfl⟩ ?_
              intro m28 em28
              have hIm28 : zInv m28 := by rw [em28]; exact hIm27.bd (r := 45) (k := 8) (lo := 0) (hi := 50) rfl (by omega) (by decide) (by decide) (by decide)
              have hFm28 : zFr W_9 m0 m28 := by rw [em28]; exact hFm27.up rfl
              have km28_45_6 : m28 45 6 = p4 := by rw [em28, zUp_ne (by omega)]; exact km27_45_6
              have km28_45_5 : m28 45 5 = f7 := by rw [em28, zUp_ne (by omega)]; exact km27_45_5
              have km28_45_8 : m28 45 8 = (f24 + 1) := by rw [em28]; exact zUp_eq _ _ _ _
              clear em28
              refine zw_R zr_8_29 (by decide) zm_8 (v := (9, 0)) rfl ?_
              rw [← hQ1]
              show zW E (d) 9 104 [(2, 45), (0, f1), (0, i2)] [] m28 Q
              refine zw_R zr_9_104 (by decide) zm_9 (v := (9, 0)) rfl ?_
              rw [← hQ]; exact ⟨rfl, hIm28, hFm28⟩
          · intro h29
            refine zw_7 zr_9_46 rfl ?_
            refine zw_46i zr_9_47 km3_45_6 rfl rfl rfl ?_
            refine zw_3 zr_9_50 rfl ?_
            refine zw_17 zr_9_51 (by omega) ?_
            refine zw_push zr_9_52 ?_
            refine zw_41_0 zr_9_54 ?_ ?_
            · intro h30
              refine zw_3 zr_9_68 rfl ?_
              refine zw_push zr_9_69 ?_
              refine zw_18h zr_9_71 ?_
              intro x31 hx31a hx31b
              refine zw_7 zr_9_72 rfl ?_
              refine zw_46r (s := 47) zr_9_73 rfl rfl rfl rfl ?_
              refine zw_7 zr_9_76 rfl ?_
              refine zw_46i zr_9_77 km3_45_6 rfl rfl rfl ?_
              refine zw_48k (c := 47) (len := 50) zr_9_80 rfl rfl (by omega) (by omega) rfl ex15.symm ?_
              refine zw_16h zr_9_81 ?_
              intro x32 hx32a hx32b
              refine zw_push zr_9_82 ?_
              refine zw_17h zr_9_84 ?_
              intro x33 hx33a hx33b
              refine zw_9 (L' := [(2, 45), (0, f1), (0, x33)]) zr_9_85 (Nat.le_of_ble_eq_true rfl) rfl ?_
              refine zw_7 zr_9_86 rfl ?_
              refine zw_43 zr_9_87 rfl ?_
              refine zw_46i zr_9_88 km3_45_6 rfl rfl rfl ?_
              refine zw_push zr_9_91 ?_
              refine zw_16 zr_9_92 (by omega) ?_
              refine zw_47 (c := 45) zr_9_93 rfl ⟨rfl, by decide, rfl⟩ ?_
              intro m34 em34
              have hIm34 : zInv m34 := by rw [em34]; exact hIm3.bd (r := 45) (k := 6) (lo := 0) (hi := 50) rfl (by omega) (by decide) (by decide) (by decide)
              have hFm34 : zFr W_9 m0 m34 := by rw [em34]; exact hFm3.up rfl
              have km34_45_5 : m34 45 5 = f7 := by rw [em34, zUp_ne (by omega)]; exact ef7
              have km34_45_6 : m34 45 6 = (p4 + 1) := by rw [em34]; exact zUp_eq _ _ _ _
              clear em34
              refine zw_42 zr_9_96 ?_
              exact zw_less (L := [(2, 45), (0, f1), (0, x33)]) ⟨Or.inr rfl, Or.inr rfl, Or.inr rfl, trivial⟩ (ihlp7_5 (x33) ((p4 + 1)) m34 hIm34 hFm34  km34_45_6 (by omega) (by omega) (by omega) (by omega) (by omega))
            · intro h35
              refine zw_7 zr_9_57 rfl ?_
              refine zw_3 zr_9_58 rfl ?_
              refine zw_47 (c := 45) zr_9_59 rfl ⟨rfl, by decide, rfl⟩ ?_
              intro m36 em36
              have hIm36 : zInv m36 := by rw [em36]; exact hIm3.bd (r := 45) (k := 6) (lo := 0) (hi := 50) rfl (by omega) (by decide) (by decide) (by decide)
              have hFm36 : zFr W_9 m0 m36 := by rw [em36]; exact hFm3.up rfl
              have km36_45_5 : m36 45 5 = f7 := by rw [em36, zUp_ne (by omega)]; exact ef7
              have km36_45_6 : m36 45 6 = f1 := by rw [em36]; exact zUp_eq _ _ _ _
              clear em36
              refine zw_7 zr_9_62 rfl ?_
              refine zw_push zr_9_63 ?_
              refine zw_C zr_9_64 (Or.inl rfl) zm_5 rfl rfl ⟨Nat.le_of_ble_eq_true rfl, Nat.le_of_ble_eq_true rfl, Nat.le_of_ble_eq_true rfl, rfl, by decide⟩ (by omega) (P := (fun v m' => zW E (d) 9 67 [(2, 45), (0, f1), (0, i2)] (if v.1 = 9 then [] else v :: []) m' Q)) ?_ (fun _ _ h => h)
              generalize hQ1 : (fun v m' => zW E (d) 9 67 [(2, 45), (0, f1), (0, i2)] (if v.1 = 9 then [] else v :: []) m' Q) = Q1
              show zW E (d - 1) 5 0 [(2, 45), (0, 2)] [] m36 Q1
              refine zw_7 zr_5_0 rfl ?_
              obtain ⟨f37, ef37⟩ : ∃ v, m36 45 1 = v := ⟨_, rfl⟩
              have bf37 := hIm36.fi (c := 45) (k := 1) rfl
              rw [ef37] at bf37
              refine zw_46i zr_5_1 ef37 rfl rfl rfl ?_
              refine zw_push zr_5_4 ?_
              refine zw_41_4 zr_5_5 ?_ ?_
              · intro h38
                refine zw_R zr_5_21 (by decide) zm_5 (v := (9, 0)) rfl ?_
                rw [← hQ1]
                show zW E (d) 9 67 [(2, 45), (0, f1), (0, i2)] [] m36 Q
                refine zw_R zr_9_67 (by decide) zm_9 (v := (9, 0)) rfl ?_
                rw [← hQ]; exact ⟨rfl, hIm36, hFm36⟩
              · intro h39
                refine zw_7 zr_5_8 rfl ?_
                refine zw_7 zr_5_9 rfl ?_
                refine zw_46i zr_5_10 km36_45_6 rfl rfl rfl ?_
                refine zw_push zr_5_13 ?_
                refine zw_18 zr_5_15 (by omega) ?_
                refine zw_3 zr_5_16 rfl ?_
                refine zw_16 zr_5_17 (by omega) ?_
                refine zw_47 (c := 45) zr_5_18 rfl ⟨rfl, by decide, rfl⟩ ?_
                intro m40 em40
                have hIm40 : zInv m40 := by rw [em40]; exact hIm36.any (by omega) rfl (by decide) (by decide)
                have hFm40 : zFr W_9 m0 m40 := by rw [em40]; exact hFm36.up rfl
                have km40_45_5 : m40 45 5 = f7 := by rw [em40, zUp_ne (by omega)]; exact km36_45_5
                have km40_45_6 : m40 45 6 = f1 := by rw [em40, zUp_ne (by omega)]; exact km36_45_6
                have km40_45_1 : m40 45 1 = ((f1 * 10) + 2) := by rw [em40]; exact zUp_eq _ _ _ _
                clear em40
                refine zw_R zr_5_21 (by decide) zm_5 (v := (9, 0)) rfl ?_
                rw [← hQ1]
                show zW E (d) 9 67 [(2, 45), (0, f1), (0, i2)] [] m40 Q
                refine zw_R zr_9_67 (by decide) zm_9 (v := (9, 0)) rfl ?_
                rw [← hQ]; exact ⟨rfl, hIm40, hFm40⟩
  exact lp7_5 _ (0) (f1) m0 hI0 hF0  ef1 (by omega) (by omega) (by omega) (by omega) (Nat.lt_succ_self _)

abbrev W_13 : List (Nat × Nat) := [(45, 1), (45, 6), (45, 7), (45, 8), (48, 1000)]
def rs_13 (E : zE) (d : Nat) : Prop := ∀ (m0 : zM) (a0 : Int) (g0 : Int), (10 * (8 - g0) + (6 - a0)).toNat + 6 ≤ d → zInv m0 → (m0 45 7 = g0) → (0 ≤ a0 ∧ a0 ≤ 5) → zC E d 13 [(2, 45), (0, a0)] m0 (fun v m' => v = (9, 0) ∧ zInv m' ∧ zFr W_13 m0 m' ∧ (m' 45 7 = g0))
abbrev W_14 : List (Nat × Nat) := [(45, 1), (45, 6), (45, 7), (45, 8), (48, 1000)]
def rs_14 (E : zE) (d : Nat) : Prop := ∀ (m0 : zM) (g0 : Int), (10 * (8 - g0)).toNat + 6 ≤ d → zInv m0 → (m0 45 7 = g0) → zC E d 14 [(2, 45)] m0 (fun v m' => v = (9, 0) ∧ zInv m' ∧ zFr W_14 m0 m' ∧ (m' 45 7 = g0))
abbrev W_12 : List (Nat × Nat) := [(45, 1), (45, 6), (45, 7), (45, 8), (48, 1000)]
def rs_12 (E : zE) (d : Nat) : Prop := ∀ (m0 : zM) (g0 : Int) (g1 : Int), (10 * (8 - g0)).toNat + 5 ≤ d → zInv m0 → (m0 45 7 = g0) → (m0 45 6 = g1) → (g1 ≤ 49) → zC E d 12 [(2, 45)] m0 (fun v m' => v = (9, 0) ∧ zInv m' ∧ zFr W_12 m0 m' ∧ (m' 45 7 = g0))
set_option maxHeartbeats 8000000 in
theorem tr_13 {E : zE} {d : Nat} (ih13 : rs_13 E (d - 1)) (ih14 : rs_14 E (d - 1)) (ih12 : rs_12 E (d - 1)) : rs_13 E d := by
  intro m0 a0 g0 hd hI0 hg0 ha0
  have hF0 : zFr W_13 m0 m0 := zFr.rfl
  have bg0 := ib_45_7 hI0
  rw [hg0] at bg0
  generalize hQ : (fun (v : zV) (m' : zM) => v = (9, 0) ∧ zInv m' ∧ zFr W_13 m0 m' ∧ (m' 45 7 = g0)) = Q
  show zW E d 13 0 [(2, 45), (0, a0), (9, 0), (9, 0), (9, 0)] [] m0 Q
  refine zw_3 zr_13_0 rfl ?_
  refine zw_push zr_13_1 ?_
  refine zw_41_0 zr_13_2 ?_ ?_
  · intro h1
    refine zw_7 zr_13_10 rfl ?_
    refine zw_3 zr_13_11 rfl ?_
    refine zw_push zr_13_12 ?_
    refine zw_16 zr_13_13 (by omega) ?_
    refine zw_C zr_13_14 (Or.inl rfl) zm_13 rfl rfl ⟨Nat.le_of_ble_eq_true rfl, Nat.le_of_ble_eq_true rfl, Nat.le_of_ble_eq_true rfl, rfl, by decide⟩ (by omega) (ih13 m0 ((a0 + 1)) (g0) (by omega) hI0 hg0 (by omega)) ?_
    rintro _ m2 ⟨rfl, hIm2, gm2, po0_m2⟩
    have hFm2 : zFr W_13 m0 m2 := hF0.trans gm2 rfl
    show zW E (d) 13 17 [(2, 45), (0, a0), (9, 0), (9, 0), (9, 0)] [] m2 Q
    refine zw_3 zr_13_17 rfl ?_
    refine zw_push zr_13_18 ?_
    refine zw_41_4 zr_13_19 ?_ ?_
    · intro h3
      refine zw_push zr_13_26 ?_
      refine zw_9 (L' := [(2, 45), (0, a0), (0, 50), (9, 0), (9, 0)]) zr_13_28 (Nat.le_of_ble_eq_true rfl) rfl ?_
      refine zw_push zr_13_29 ?_
      refine zw_9 (L' := [(2, 45), (0, a0), (0, 50), (0, 0), (9, 0)]) zr_13_30 (Nat.le_of_ble_eq_true rfl) rfl ?_
      have lp31_6 : ∀ (nlp31_6 : Nat) (i4 : Int) (m5 : zM), zInv m5 → zFr W_13 m0 m5 → 0 ≤ i4 → i4 ≤ 50 → (50 - i4).toNat < nlp31_6 → zW E (d) 13 31 [(2, 45), (0, a0), (0, 50), (0, i4), (9, 0)] [] m5 Q := by
        intro nlp31_6
        induction nlp31_6 with
        | zero =>
          intros
          exact absurd (by assumption : _ < 0) (Nat.not_lt_zero _)
        | succ nlp31_6 ihlp31_6 =>
          intro i4 m5 hIm5 hFm5 li4 ui4 hmlp31_6
          refine zw_3 zr_13_31 rfl ?_
          refine zw_3 zr_13_32 rfl ?_
          refine zw_41_3 zr_13_33 ?_ ?_
          · intro h8
            refine zw_R zr_13_82 (by decide) zm_13 (v := (9, 0)) rfl ?_
            rw [← hQ]; exact ⟨rfl, hIm5, hFm5, by omega⟩
          · intro h9
            refine zw_7 zr_13_36 rfl ?_
            refine zw_C zr_13_37 (Or.inl rfl) zm_6 rfl rfl ⟨Nat.le_of_ble_eq_true rfl, Nat.le_of_ble_eq_true rfl, Nat.le_of_ble_eq_true rfl, rfl, by decide⟩ (by omega) (th_6 (d := d - 1) (by omega) hIm5    ) ?_
            rintro _ m10 ⟨r11, rfl, hr11a, hr11b, hIm10, gm10, po0_r11⟩
            have hFm10 : zFr W_13 m0 m10 := hFm5.trans gm10 rfl
            obtain ⟨f12, ef12⟩ : ∃ v, m10 45 6 = v := ⟨_, rfl⟩
            have bf12 := ib_45_6 hIm10
            rw [ef12] at bf12
            show zW E (d) 13 40 [(2, 45), (0, a0), (0, 50), (0, i4), (9, 0)] [(0, r11)] m10 Q
            refine zw_10 (L' := [(2, 45), (0, a0), (0, 50), (0, i4), (0, r11)]) zr_13_40 (Nat.le_of_ble_eq_true rfl) rfl ?_
            refine zw_4 zr_13_42 rfl ?_
            refine zw_C zr_13_44 (Or.inr rfl) zm_7 rfl rfl ⟨Nat.le_of_ble_eq_true rfl, Nat.le_of_ble_eq_true rfl, Nat.le_of_ble_eq_true rfl, rfl, by decide⟩ (by omega) (P := (fun v m' => zW E (d) 13 47 [(2, 45), (0, a0), (0, 50), (0, i4), (0, r11)] (if v.1 = 9 then [] else v :: []) m' Q)) ?_ (fun _ _ h => h)
            generalize hQ1 : (fun v m' => zW E (d) 13 47 [(2, 45), (0, a0), (0, 50), (0, i4), (0, r11)] (if v.1 = 9 then [] else v :: []) m' Q) = Q1
            show zW E (d - 1) 7 0 [(0, r11)] [] m10 Q1
            refine zw_3 zr_7_0 rfl ?_
            by_cases h13 : r11 = 38
            · refine zw_112 (off := 85) (t := 86) zr_7_1 (by rw [h13]; rfl) rfl ?_
              refine zw_push zr_7_86 ?_
              refine zw_R zr_7_87 (by decide) zm_7 (v := (0, 1)) rfl ?_
              rw [← hQ1]
              show zW E (d) 13 47 [(2, 45), (0, a0), (0, 50), (0, i4), (0, r11)] [(0, 1)] m10 Q
              refine zw_3 zr_13_47 rfl ?_
              refine zw_41_1 zr_13_48 ?_ ?_
              · intro h14
                refine zw_7 zr_13_52 rfl ?_
                refine zw_43 zr_13_53 rfl ?_
                refine zw_46i zr_13_54 ef12 rfl rfl rfl ?_
                refine zw_push zr_13_57 ?_
                refine zw_16 zr_13_58 (by omega) ?_
                refine zw_47 (c := 45) zr_13_59 rfl ⟨rfl, by decide, rfl⟩ ?_
                intro m15 em15
                have hIm15 : zInv m15 := by rw [em15]; exact hIm10.bd (r := 45) (k := 6) (lo := 0) (hi := 50) rfl (by omega) (by decide) (by decide) (by decide)
                have hFm15 : zFr W_13 m0 m15 := by rw [em15]; exact hFm10.up rfl
                have km15_45_6 : m15 45 6 = (f12 + 1) := by rw [em15]; exact zUp_eq _ _ _ _
                clear em15
                refine zw_7 zr_13_62 rfl ?_
                refine zw_3 zr_13_63 rfl ?_
                refine zw_push zr_13_64 ?_
                refine zw_16 zr_13_65 (by omega) ?_
                obtain ⟨f16, ef16⟩ : ∃ v, m15 45 7 = v := ⟨_, rfl⟩
                have bf16 := ib_45_7 hIm15
                rw [ef16] at bf16
                refine zw_C zr_13_66 (Or.inl rfl) zm_13 rfl rfl ⟨Nat.le_of_ble_eq_true rfl, Nat.le_of_ble_eq_true rfl, Nat.le_of_ble_eq_true rfl, rfl, by decide⟩ (by omega) (ih13 m15 ((a0 + 1)) (f16) (by omega) hIm15 ef16 (by omega)) ?_
                rintro _ m17 ⟨rfl, hIm17, gm17, po0_m17⟩
                have hFm17 : zFr W_13 m0 m17 := hFm15.trans gm17 rfl
                show zW E (d) 13 69 [(2, 45), (0, a0), (0, 50), (0, i4), (0, r11)] [] m17 Q
                refine zw_7 zr_13_69 rfl ?_
                refine zw_4 zr_13_70 rfl ?_
                refine zw_38 zr_13_72 (by omega) ?_
                refine zw_C zr_13_73 (Or.inl rfl) zm_8 rfl rfl ⟨Nat.le_of_ble_eq_true rfl, Nat.le_of_ble_eq_true rfl, Nat.le_of_ble_eq_true rfl, rfl, by decide⟩ (by omega) (P := (fun v m' => zW E (d) 13 76 [(2, 45), (0, a0), (0, 50), (0, i4), (0, r11)] (if v.1 = 9 then [] else v :: []) m' Q)) ?_ (fun _ _ h => h)
                generalize hQ1 : (fun v m' => zW E (d) 13 76 [(2, 45), (0, a0), (0, 50), (0, i4), (0, r11)] (if v.1 = 9 then [] else v :: []) m' Q) = Q1
                show zW E (d - 1) 8 0 [(2, 45), (0, (-r11))] [] m17 Q1
                refine zw_7 zr_8_0 rfl ?_
                obtain ⟨f18, ef18⟩ : ∃ v, m17 45 8 = v := ⟨_, rfl⟩
                have bf18 := ib_45_8 hIm17
                rw [ef18] at bf18
                refine zw_46i zr_8_1 ef18 rfl rfl rfl ?_
                refine zw_push zr_8_4 ?_
                refine zw_41_3 zr_8_6 ?_ ?_
                · intro h19
                  refine zw_R zr_8_29 (by decide) zm_8 (v := (9, 0)) rfl ?_
                  rw [← hQ1]
                  show zW E (d) 13 76 [(2, 45), (0, a0), (0, 50), (0, i4), (0, r11)] [] m17 Q
                  refine zw_15 (c := 1) (L' := [(2, 45), (0, a0), (0, 50), (0, (i4 + 1)), (0, r11)]) zr_13_76 rfl (by decide) (by omega) rfl ?_
                  refine zw_42 zr_13_79 ?_
                  exact zw_less (L := [(2, 45), (0, a0), (0, 50), (0, (i4 + 1)), (9, 0)]) ⟨Or.inr rfl, Or.inr rfl, Or.inr rfl, Or.inr rfl, Or.inl rfl, trivial⟩ (ihlp31_6 ((i4 + 1)) m17 hIm17 hFm17   (by omega) (by omega) (by omega))
                · intro h20
                  refine zw_7 zr_8_9 rfl ?_
                  refine zw_46r (s := 48) zr_8_10 rfl rfl rfl rfl ?_
                  refine zw_7 zr_8_13 rfl ?_
                  refine zw_46i zr_8_14 ef18 rfl rfl rfl ?_
                  refine zw_3 zr_8_17 rfl ?_
                  refine zw_49 (c := 48) (len := 50) zr_8_18 rfl rfl (by omega) (by omega) ?_
                  intro m21 em21
                  have hIm21 : zInv m21 := by rw [em21]; exact hIm17.any (by omega) rfl (by decide) (by decide)
                  have hFm21 : zFr W_13 m0 m21 := by rw [em21]; exact hFm17.any rfl
                  have km21_45_7 : m21 45 7 = f16 := by rw [em21, zUp_ne (by omega)]; exact po0_m17
                  have km21_45_8 : m21 45 8 = f18 := by rw [em21, zUp_ne (by omega)]; exact ef18
                  clear em21
                  refine zw_7 zr_8_19 rfl ?_
                  refine zw_43 zr_8_20 rfl ?_
                  refine zw_46i zr_8_21 km21_45_8 rfl rfl rfl ?_
                  refine zw_push zr_8_24 ?_
                  refine zw_16 zr_8_25 (by omega) ?_
                  refine zw_47 (c := 45) zr_8_26 rfl ⟨rfl, by decide, rfl⟩ ?_
                  intro m22 em22
                  have hIm22 : zInv m22 := by rw [em22]; exact hIm21.bd (r := 45) (k := 8) (lo := 0) (hi := 50) rfl (by omega) (by decide) (by decide) (by decide)
                  have hFm22 : zFr W_13 m0 m22 := by rw [em22]; exact hFm21.up rfl
                  have km22_45_7 : m22 45 7 = f16 := by rw [em22, zUp_ne (by omega)]; exact km21_45_7
                  have km22_45_8 : m22 45 8 = (f18 + 1) := by rw [em22]; exact zUp_eq _ _ _ _
                  clear em22
                  refine zw_R zr_8_29 (by decide) zm_8 (v := (9, 0)) rfl ?_
                  rw [← hQ1]
                  show zW E (d) 13 76 [(2, 45), (0, a0), (0, 50), (0, i4), (0, r11)] [] m22 Q
                  refine zw_15 (c := 1) (L' := [(2, 45), (0, a0), (0, 50), (0, (i4 + 1)), (0, r11)]) zr_13_76 rfl (by decide) (by omega) rfl ?_
                  refine zw_42 zr_13_79 ?_
                  exact zw_less (L := [(2, 45), (0, a0), (0, 50), (0, (i4 + 1)), (9, 0)]) ⟨Or.inr rfl, Or.inr rfl, Or.inr rfl, Or.inr rfl, Or.inl rfl, trivial⟩ (ihlp31_6 ((i4 + 1)) m22 hIm22 hFm22   (by omega) (by omega) (by omega))
              · intro h23
                refine zw_R zr_13_51 (by decide) zm_13 (v := (9, 0)) rfl ?_
                rw [← hQ]; exact ⟨rfl, hIm10, hFm10, by omega⟩
            by_cases h24 : r11 = 42
            · refine zw_112 (off := 91) (t := 92) zr_7_1 (by rw [h24]; rfl) rfl ?_
              refine zw_push zr_7_92 ?_
              refine zw_R zr_7_93 (by decide) zm_7 (v := (0, 4)) rfl ?_
              rw [← hQ1]
              show zW E (d) 13 47 [(2, 45), (0, a0), (0, 50), (0, i4), (0, r11)] [(0, 4)] m10 Q
              refine zw_3 zr_13_47 rfl ?_
              refine zw_41_1 zr_13_48 ?_ ?_
              · intro h25
                refine zw_7 zr_13_52 rfl ?_
                refine zw_43 zr_13_53 rfl ?_
                refine zw_46i zr_13_54 ef12 rfl rfl rfl ?_
                refine zw_push zr_13_57 ?_
                refine zw_16 zr_13_58 (by omega) ?_
                refine zw_47 (c := 45) zr_13_59 rfl ⟨rfl, by decide, rfl⟩ ?_
                intro m26 em26
                have hIm26 : zInv m26 := by rw [em26]; exact hIm10.bd (r := 45) (k := 6) (lo := 0) (hi := 50) rfl (by omega) (by decide) (by decide) (by decide)
                have hFm26 : zFr W_13 m0 m26 := by rw [em26]; exact hFm10.up rfl
                have km26_45_6 : m26 45 6 = (f12 + 1) := by rw [em26]; exact zUp_eq _ _ _ _
                clear em26
                refine zw_7 zr_13_62 rfl ?_
                refine zw_3 zr_13_63 rfl ?_
                refine zw_push zr_13_64 ?_
                refine zw_16 zr_13_65 (by omega) ?_
                obtain ⟨f27, ef27⟩ : ∃ v, m26 45 7 = v := ⟨_, rfl⟩
                have bf27 := ib_45_7 hIm26
                rw [ef27] at bf27
                refine zw_C zr_13_66 (Or.inl rfl) zm_13 rfl rfl ⟨Nat.le_of_ble_eq_true rfl, Nat.le_of_ble_eq_true rfl, Nat.le_of_ble_eq_true rfl, rfl, by decide⟩ (by omega) (ih13 m26 ((a0 + 1)) (f27) (by omega) hIm26 ef27 (by omega)) ?_
                rintro _ m28 ⟨rfl, hIm28, gm28, po0_m28⟩
                have hFm28 : zFr W_13 m0 m28 := hFm26.trans gm28 rfl
                show zW E (d) 13 69 [(2, 45), (0, a0), (0, 50), (0, i4), (0, r11)] [] m28 Q
                refine zw_7 zr_13_69 rfl ?_
                refine zw_4 zr_13_70 rfl ?_
                refine zw_38 zr_13_72 (by omega) ?_
                refine zw_C zr_13_73 (Or.inl rfl) zm_8 rfl rfl ⟨Nat.le_of_ble_eq_true rfl, Nat.le_of_ble_eq_true rfl, Nat.le_of_ble_eq_true rfl, rfl, by decide⟩ (by omega) (P := (fun v m' => zW E (d) 13 76 [(2, 45), (0, a0), (0, 50), (0, i4), (0, r11)] (if v.1 = 9 then [] else v :: []) m' Q)) ?_ (fun _ _ h => h)
                generalize hQ1 : (fun v m' => zW E (d) 13 76 [(2, 45), (0, a0), (0, 50), (0, i4), (0, r11)] (if v.1 = 9 then [] else v :: []) m' Q) = Q1
                show zW E (d - 1) 8 0 [(2, 45), (0, (-r11))] [] m28 Q1
                refine zw_7 zr_8_0 rfl ?_
                obtain ⟨f29, ef29⟩ : ∃ v, m28 45 8 = v := ⟨_, rfl⟩
                have bf29 := ib_45_8 hIm28
                rw [ef29] at bf29
                refine zw_46i zr_8_1 ef29 rfl rfl rfl ?_
                refine zw_push zr_8_4 ?_
                refine zw_41_3 zr_8_6 ?_ ?_
                · intro h30
                  refine zw_R zr_8_29 (by decide) zm_8 (v := (9, 0)) rfl ?_
                  rw [← hQ1]
                  show zW E (d) 13 76 [(2, 45), (0, a0), (0, 50), (0, i4), (0, r11)] [] m28 Q
                  refine zw_15 (c := 1) (L' := [(2, 45), (0, a0), (0, 50), (0, (i4 + 1)), (0, r11)]) zr_13_76 rfl (by decide) (by omega) rfl ?_
                  refine zw_42 zr_13_79 ?_
                  exact zw_less (L := [(2, 45), (0, a0), (0, 50), (0, (i4 + 1)), (9, 0)]) ⟨Or.inr rfl, Or.inr rfl, Or.inr rfl, Or.inr rfl, Or.inl rfl, trivial⟩ (ihlp31_6 ((i4 + 1)) m28 hIm28 hFm28   (by omega) (by omega) (by omega))
                · intro h31
                  refine zw_7 zr_8_9 rfl ?_
                  refine zw_46r (s := 48) zr_8_10 rfl rfl rfl rfl ?_
                  refine zw_7 zr_8_13 rfl ?_
                  refine zw_46i zr_8_14 ef29 rfl rfl rfl ?_
                  refine zw_3 zr_8_17 rfl ?_
                  refine zw_49 (c := 48) (len := 50) zr_8_18 rfl rfl (by omega) (by omega) ?_
                  intro m32 em32
                  have hIm32 : zInv m32 := by rw [em32]; exact hIm28.any (by omega) rfl (by decide) (by decide)
                  have hFm32 : zFr W_13 m0 m32 := by rw [em32]; exact hFm28.any rfl
                  have km32_45_7 : m32 45 7 = f27 := by rw [em32, zUp_ne (by omega)]; exact po0_m28
                  have km32_45_8 : m32 45 8 = f29 := by rw [em32, zUp_ne (by omega)]; exact ef29
                  clear em32
                  refine zw_7 zr_8_19 rfl ?_
                  refine zw_43 zr_8_20 rfl ?_
                  refine zw_46i zr_8_21 km32_45_8 rfl rfl rfl ?_
                  refine zw_push zr_8_24 ?_
                  refine zw_16 zr_8_25 (by omega) ?_
                  refine zw_47 (c := 45) zr_8_26 rfl ⟨rfl, by decide, rfl⟩ ?_
                  intro m33 em33
                  have hIm33 : zInv m33 := by rw [em33]; exact hIm32.bd (r := 45) (k := 8) (lo := 0) (hi := 50) rfl (by omega) (by decide) (by decide) (by decide)
                  have hFm33 : zFr W_13 m0 m33 := by rw [em33]; exact hFm32.up rfl
                  have km33_45_7 : m33 45 7 = f27 := by rw [em33, zUp_ne (by omega)]; exact km32_45_7
                  have km33_45_8 : m33 45 8 = (f29 + 1) := by rw [em33]; exact zUp_eq _ _ _ _
                  clear em33
                  refine zw_R zr_8_29 (by decide) zm_8 (v := (9, 0)) rfl ?_
                  rw [← hQ1]
                  show zW E (d) 13 76 [(2, 45), (0, a0), (0, 50), (0, i4), (0, r11)] [] m33 Q
                  refine zw_15 (c := 1) (L' := [(2, 45), (0, a0), (0, 50), (0, (i4 + 1)), (0, r11)]) zr_13_76 rfl (by decide) (by omega) rfl ?_
                  refine zw_42 zr_13_79 ?_
                  exact zw_less (L := [(2, 45), (0, a0), (0, 50), (0, (i4 + 1)), (9, 0)]) ⟨Or.inr rfl, Or.inr rfl, Or.inr rfl, Or.inr rfl, Or.inl rfl, trivial⟩ (ihlp31_6 ((i4 + 1)) m33 hIm33 hFm33   (by omega) (by omega) (by omega))
              · intro h34
                refine zw_R zr_13_51 (by decide) zm_13 (v := (9, 0)) rfl ?_
                rw [← hQ]; exact ⟨rfl, hIm10, hFm10, by omega⟩
            by_cases h35 : r11 = 43
            · refine zw_112 (off := 89) (t := 90) zr_7_1 (by rw [h35]; rfl) rfl ?_
              refine zw_push zr_7_90 ?_
              refine zw_R zr_7_91 (by decide) zm_7 (v := (0, 3)) rfl ?_
              rw [← hQ1]
              show zW E (d) 13 47 [(2, 45), (0, a0), (0, 50), (0, i4), (0, r11)] [(0, 3)] m10 Q
              refine zw_3 zr_13_47 rfl ?_
              refine zw_41_1 zr_13_48 ?_ ?_
              · intro h36
                refine zw_7 zr_13_52 rfl ?_
                refine zw_43 zr_13_53 rfl ?_
                refine zw_46i zr_13_54 ef12 rfl rfl rfl ?_
                refine zw_push zr_13_57 ?_
                refine zw_16 zr_13_58 (by omega) ?_
                refine zw_47 (c := 45) zr_13_59 rfl ⟨rfl, by decide, rfl⟩ ?_
                intro m37 em37
                have hIm37 : zInv m37 := by rw [em37]; exact hIm10.bd (r := 45) (k := 6) (lo := 0) (hi := 50) rfl (by omega) (by decide) (by decide) (by decide)
                have hFm37 : zFr W_13 m0 m37 := by rw [em37]; exact hFm10.up rfl
                have km37_45_6 : m37 45 6 = (f12 + 1) := by rw [em37]; exact zUp_eq _ _ _ _
                clear em37
                refine zw_7 zr_13_62 rfl ?_
                refine zw_3 zr_13_63 rfl ?_
                refine zw_push zr_13_64 ?_
                refine zw_16 zr_13_65 (by omega) ?_
                obtain ⟨f38, ef38⟩ : ∃ v, m37 45 7 = v := ⟨_, rfl⟩
                have bf38 := ib_45_7 hIm37
                rw [ef38] at bf38
                refine zw_C zr_13_66 (Or.inl rfl) zm_13 rfl rfl ⟨Nat.le_of_ble_eq_true rfl, Nat.le_of_ble_eq_true rfl, Nat.le_of_ble_eq_true rfl, rfl, by decide⟩ (by omega) (ih13 m37 ((a0 + 1)) (f38) (by omega) hIm37 ef38 (by omega)) ?_
                rintro _ m39 ⟨rfl, hIm39, gm39, po0_m39⟩
                have hFm39 : zFr W_13 m0 m39 := hFm37.trans gm39 rfl
                show zW E (d) 13 69 [(2, 45), (0, a0), (0, 50), (0, i4), (0, r11)] [] m39 Q
                refine zw_7 zr_13_69 rfl ?_
                refine zw_4 zr_13_70 rfl ?_
                refine zw_38 zr_13_72 (by omega) ?_
                refine zw_C zr_13_73 (Or.inl rfl) zm_8 rfl rfl ⟨Nat.le_of_ble_eq_true rfl, Nat.le_of_ble_eq_true rfl, Nat.le_of_ble_eq_true rfl, rfl, by decide⟩ (by omega) (P := (fun v m' => zW E (d) 13 76 [(2, 45), (0, a0), (0, 50), (0, i4), (0, r11)] (if v.1 = 9 then [] else v :: []) m' Q)) ?_ (fun _ _ h => h)
                generalize hQ1 : (fun v m' => zW E (d) 13 76 [(2, 45), (0, a0), (0, 50), (0, i4), (0, r11)] (if v.1 = 9 then [] else v :: []) m' Q) = Q1
                show zW E (d - 1) 8 0 [(2, 45), (0, (-r11))] [] m39 Q1
                refine zw_7 zr_8_0 rfl ?_
                obtain ⟨f40, ef40⟩ : ∃ v, m39 45 8 = v := ⟨_, rfl⟩
                have bf40 := ib_45_8 hIm39
                rw [ef40] at bf40
                refine zw_46i zr_8_1 ef40 rfl rfl rfl ?_
                refine zw_push zr_8_4 ?_
                refine zw_41_3 zr_8_6 ?_ ?_
                · intro h41
                  refine zw_R zr_8_29 (by decide) zm_8 (v := (9, 0)) rfl ?_
                  rw [← hQ1]
                  show zW E (d) 13 76 [(2, 45), (0, a0), (0, 50), (0, i4), (0, r11)] [] m39 Q
                  refine zw_15 (c := 1) (L' := [(2, 45), (0, a0), (0, 50), (0, (i4 + 1)), (0, r11)]) zr_13_76 rfl (by decide) (by omega) rfl ?_
                  refine zw_42 zr_13_79 ?_
                  exact zw_less (L := [(2, 45), (0, a0), (0, 50), (0, (i4 + 1)), (9, 0)]) ⟨Or.inr rfl, Or.inr rfl, Or.inr rfl, Or.inr rfl, Or.inl rfl, trivial⟩ (ihlp31_6 ((i4 + 1)) m39 hIm39 hFm39   (by omega) (by omega) (by omega))
                · intro h42
                  refine zw_7 zr_8_9 rfl ?_
                  refine zw_46r (s := 48) zr_8_10 rfl rfl rfl rfl ?_
                  refine zw_7 zr_8_13 rfl ?_
                  refine zw_46i zr_8_14 ef40 rfl rfl rfl ?_
                  refine zw_3 zr_8_17 rfl ?_
                  refine zw_49 (c := 48) (len := 50) zr_8_18 rfl rfl (by omega) (by omega) ?_
                  intro m43 em43
                  have hIm43 : zInv m43 := by rw [em43]; exact hIm39.any (by omega) rfl (by decide) (by decide)
                  have hFm43 : zFr W_13 m0 m43 := by rw [em43]; exact hFm39.any rfl
                  have km43_45_7 : m43 45 7 = f38 := by rw [em43, zUp_ne (by omega)]; exact po0_m39
                  have km43_45_8 : m43 45 8 = f40 := by rw [em43, zUp_ne (by omega)]; exact ef40
                  clear em43
                  refine zw_7 zr_8_19 rfl ?_
                  refine zw_43 zr_8_20 rfl ?_
                  refine zw_46i zr_8_21 km43_45_8 rfl rfl rfl ?_
                  refine zw_push zr_8_24 ?_
                  refine zw_16 zr_8_25 (by omega) ?_
                  refine zw_47 (c := 45) zr_8_26 rfl ⟨rfl, by decide, rfl⟩ ?_
                  intro m44 em44
                  have hIm44 : zInv m44 := by rw [em44]; exact hIm43.bd (r := 45) (k := 8) (lo := 0) (hi := 50) rfl (by omega) (by decide) (by decide) (by decide)
                  have hFm44 : zFr W_13 m0 m44 := by rw [em44]; exact hFm43.up rfl
                  have km44_45_7 : m44 45 7 = f38 := by rw [em44, zUp_ne (by omega)]; exact km43_45_7
                  have km44_45_8 : m44 45 8 = (f40 + 1) := by rw [em44]; exact zUp_eq _ _ _ _
                  clear em44
                  refine zw_R zr_8_29 (by decide) zm_8 (v := (9, 0)) rfl ?_
                  rw [← hQ1]
                  show zW E (d) 13 76 [(2, 45), (0, a0), (0, 50), (0, i4), (0, r11)] [] m44 Q
                  refine zw_15 (c := 1) (L' := [(2, 45), (0, a0), (0, 50), (0, (i4 + 1)), (0, r11)]) zr_13_76 rfl (by decide) (by omega) rfl ?_
                  refine zw_42 zr_13_79 ?_
                  exact zw_less (L := [(2, 45), (0, a0), (0, 50), (0, (i4 + 1)), (9, 0)]) ⟨Or.inr rfl, Or.inr rfl, Or.inr rfl, Or.inr rfl, Or.inl rfl, trivial⟩ (ihlp31_6 ((i4 + 1)) m44 hIm44 hFm44   (by omega) (by omega) (by omega))
              · intro h45
                refine zw_R zr_13_51 (by decide) zm_13 (v := (9, 0)) rfl ?_
                rw [← hQ]; exact ⟨rfl, hIm10, hFm10, by omega⟩
            by_cases h46 : r11 = 45
            · refine zw_112 (off := 89) (t := 90) zr_7_1 (by rw [h46]; rfl) rfl ?_
              refine zw_push zr_7_90 ?_
              refine zw_R zr_7_91 (by decide) zm_7 (v := (0, 3)) rfl ?_
              rw [← hQ1]
              show zW E (d) 13 47 [(2, 45), (0, a0), (0, 50), (0, i4), (0, r11)] [(0, 3)] m10 Q
              refine zw_3 zr_13_47 rfl ?_
              refine zw_41_1 zr_13_48 ?_ ?_
              · intro h47
                refine zw_7 zr_13_52 rfl ?_
                refine zw_43 zr_13_53 rfl ?_
                refine zw_46i zr_13_54 ef12 rfl rfl rfl ?_
                refine zw_push zr_13_57 ?_
                refine zw_16 zr_13_58 (by omega) ?_
                refine zw_47 (c := 45) zr_13_59 rfl ⟨rfl, by decide, rfl⟩ ?_
                intro m48 em48
                have hIm48 : zInv m48 := by rw [em48]; exact hIm10.bd (r := 45) (k := 6) (lo := 0) (hi := 50) rfl (by omega) (by decide) (by decide) (by decide)
                have hFm48 : zFr W_13 m0 m48 := by rw [em48]; exact hFm10.up rfl
                have km48_45_6 : m48 45 6 = (f12 + 1) := by rw [em48]; exact zUp_eq _ _ _ _
                clear em48
                refine zw_7 zr_13_62 rfl ?_
                refine zw_3 zr_13_63 rfl ?_
                refine zw_push zr_13_64 ?_
                refine zw_16 zr_13_65 (by omega) ?_
                obtain ⟨f49, ef49⟩ : ∃ v, m48 45 7 = v := ⟨_, rfl⟩
                have bf49 := ib_45_7 hIm48
                rw [ef49] at bf49
                refine zw_C zr_13_66 (Or.inl rfl) zm_13 rfl rfl ⟨Nat.le_of_ble_eq_true rfl, Nat.le_of_ble_eq_true rfl, Nat.le_of_ble_eq_true rfl, rfl, by decide⟩ (by omega) (ih13 m48 ((a0 + 1)) (f49) (by omega) hIm48 ef49 (by omega)) ?_
                rintro _ m50 ⟨rfl, hIm50, gm50, po0_m50⟩
                have hFm50 : zFr W_13 m0 m50 := hFm48.trans gm50 rfl
                show zW E (d) 13 69 [(2, 45), (0, a0), (0, 50), (0, i4), (0, r11)] [] m50 Q
                refine zw_7 zr_13_69 rfl ?_
                refine zw_4 zr_13_70 rfl ?_
                refine zw_38 zr_13_72 (by omega) ?_
                refine zw_C zr_13_73 (Or.inl rfl) zm_8 rfl rfl ⟨Nat.le_of_ble_eq_true rfl, Nat.le_of_ble_eq_true rfl, Nat.le_of_ble_eq_true rfl, rfl, by decide⟩ (by omega) (P := (fun v m' => zW E (d) 13 76 [(2, 45), (0, a0), (0, 50), (0, i4), (0, r11)] (if v.1 = 9 then [] else v :: []) m' Q)) ?_ (fun _ _ h => h)
                generalize hQ1 : (fun v m' => zW E (d) 13 76 [(2, 45), (0, a0), (0, 50), (0, i4), (0, r11)] (if v.1 = 9 then [] else v :: []) m' Q) = Q1
                show zW E (d - 1) 8 0 [(2, 45), (0, (-r11))] [] m50 Q1
                refine zw_7 zr_8_0 rfl ?_
                obtain ⟨f51, ef51⟩ : ∃ v, m50 45 8 = v := ⟨_, rfl⟩
                have bf51 := ib_45_8 hIm50
                rw [ef51] at bf51
                refine zw_46i zr_8_1 ef51 rfl rfl rfl ?_
                refine zw_push zr_8_4 ?_
                refine zw_41_3 zr_8_6 ?_ ?_
                · intro h52
                  refine zw_R zr_8_29 (by decide) zm_8 (v := (9, 0)) rfl ?_
                  rw [← hQ1]
                  show zW E (d) 13 76 [(2, 45), (0, a0), (0, 50), (0, i4), (0, r11)] [] m50 Q
                  refine zw_15 (c := 1) (L' := [(2, 45), (0, a0), (0, 50), (0, (i4 + 1)), (0, r11)]) zr_13_76 rfl (by decide) (by omega) rfl ?_
                  refine zw_42 zr_13_79 ?_
                  exact zw_less (L := [(2, 45), (0, a0), (0, 50), (0, (i4 + 1)), (9, 0)]) ⟨Or.inr rfl, Or.inr rfl, Or.inr rfl, Or.inr rfl, Or.inl rfl, trivial⟩ (ihlp31_6 ((i4 + 1)) m50 hIm50 hFm50   (by omega) (by omega) (by omega))
                · intro h53
                  refine zw_7 zr_8_9 rfl ?_
                  refine zw_46r (s := 48) zr_8_10 rfl rfl rfl rfl ?_
                  refine zw_7 zr_8_13 rfl ?_
                  refine zw_46i zr_8_14 ef51 rfl rfl rfl ?_
                  refine zw_3 zr_8_17 rfl ?_
                  refine zw_49 (c := 48) (len := 50) zr_8_18 rfl rfl (by omega) (by omega) ?_
                  intro m54 em54
                  have hIm54 : zInv m54 := by rw [em54]; exact hIm50.any (by omega) rfl (by decide) (by decide)
                  have hFm54 : zFr W_13 m0 m54 := by rw [em54]; exact hFm50.any rfl
                  have km54_45_7 : m54 45 7 = f49 := by rw [em54, zUp_ne (by omega)]; exact po0_m50
                  have km54_45_8 : m54 45 8 = f51 := by rw [em54, zUp_ne (by omega)]; exact ef51
                  clear em54
                  refine zw_7 zr_8_19 rfl ?_
                  refine zw_43 zr_8_20 rfl ?_
                  refine zw_46i zr_8_21 km54_45_8 rfl rfl rfl ?_
                  refine zw_push zr_8_24 ?_
                  refine zw_16 zr_8_25 (by omega) ?_
                  refine zw_47 (c := 45) zr_8_26 rfl ⟨rfl, by decide, rfl⟩ ?_
                  intro m55 em55
                  have hIm55 : zInv m55 := by rw [em55]; exact hIm54.bd (r := 45) (k := 8) (lo := 0) (hi := 50) rfl (by omega) (by decide) (by decide) (by decide)
                  have hFm55 : zFr W_13 m0 m55 := by rw [em55]; exact hFm54.up rfl
                  have km55_45_7 : m55 45 7 = f49 := by rw [em55, zUp_ne (by omega)]; exact km54_45_7
                  have km55_45_8 : m55 45 8 = (f51 + 1) := by rw [em55]; exact zUp_eq _ _ _ _
                  clear em55
                  refine zw_R zr_8_29 (by decide) zm_8 (v := (9, 0)) rfl ?_
                  rw [← hQ1]
                  show zW E (d) 13 76 [(2, 45), (0, a0), (0, 50), (0, i4), (0, r11)] [] m55 Q
                  refine zw_15 (c := 1) (L' := [(2, 45), (0, a0), (0, 50), (0, (i4 + 1)), (0, r11)]) zr_13_76 rfl (by decide) (by omega) rfl ?_
                  refine zw_42 zr_13_79 ?_
                  exact zw_less (L := [(2, 45), (0, a0), (0, 50), (0, (i4 + 1)), (9, 0)]) ⟨Or.inr rfl, Or.inr rfl, Or.inr rfl, Or.inr rfl, Or.inl rfl, trivial⟩ (ihlp31_6 ((i4 + 1)) m55 hIm55 hFm55   (by omega) (by omega) (by omega))
              · intro h56
                refine zw_R zr_13_51 (by decide) zm_13 (v := (9, 0)) rfl ?_
                rw [← hQ]; exact ⟨rfl, hIm10, hFm10, by omega⟩
            by_cases h57 : r11 = 47
            · refine zw_112 (off := 91) (t := 92) zr_7_1 (by rw [h57]; rfl) rfl ?_
              refine zw_push zr_7_92 ?_
              refine zw_R zr_7_93 (by decide) zm_7 (v := (0, 4)) rfl ?_
              rw [← hQ1]
              show zW E (d) 13 47 [(2, 45), (0, a0), (0, 50), (0, i4), (0, r11)] [(0, 4)] m10 Q
              refine zw_3 zr_13_47 rfl ?_
              refine zw_41_1 zr_13_48 ?_ ?_
              · intro h58
                refine zw_7 zr_13_52 rfl ?_
                refine zw_43 zr_13_53 rfl ?_
                refine zw_46i zr_13_54 ef12 rfl rfl rfl ?_
                refine zw_push zr_13_57 ?_
                refine zw_16 zr_13_58 (by omega) ?_
                refine zw_47 (c := 45) zr_13_59 rfl ⟨rfl, by decide, rfl⟩ ?_
                intro m59 em59
                have hIm59 : zInv m59 := by rw [em59]; exact hIm10.bd (r := 45) (k := 6) (lo := 0) (hi := 50) rfl (by omega) (by decide) (by decide) (by decide)
                have hFm59 : zFr W_13 m0 m59 := by rw [em59]; exact hFm10.up rfl
                have km59_45_6 : m59 45 6 = (f12 + 1) := by rw [em59]; exact zUp_eq _ _ _ _
                clear em59
                refine zw_7 zr_13_62 rfl ?_
                refine zw_3 zr_13_63 rfl ?_
                refine zw_push zr_13_64 ?_
                refine zw_16 zr_13_65 (by omega) ?_
                obtain ⟨f60, ef60⟩ : ∃ v, m59 45 7 = v := ⟨_, rfl⟩
                have bf60 := ib_45_7 hIm59
                rw [ef60] at bf60
                refine zw_C zr_13_66 (Or.inl rfl) zm_13 rfl rfl ⟨Nat.le_of_ble_eq_true rfl, Nat.le_of_ble_eq_true rfl, Nat.le_of_ble_eq_true rfl, rfl, by decide⟩ (by omega) (ih13 m59 ((a0 + 1)) (f60) (by omega) hIm59 ef60 (by omega)) ?_
                rintro _ m61 ⟨rfl, hIm61, gm61, po0_m61⟩
                have hFm61 : zFr W_13 m0 m61 := hFm59.trans gm61 rfl
                show zW E (d) 13 69 [(2, 45), (0, a0), (0, 50), (0, i4), (0, r11)] [] m61 Q
                refine zw_7 zr_13_69 rfl ?_
                refine zw_4 zr_13_70 rfl ?_
                refine zw_38 zr_13_72 (by omega) ?_
                refine zw_C zr_13_73 (Or.inl rfl) zm_8 rfl rfl ⟨Nat.le_of_ble_eq_true rfl, Nat.le_of_ble_eq_true rfl, Nat.le_of_ble_eq_true rfl, rfl, by decide⟩ (by omega) (P := (fun v m' => zW E (d) 13 76 [(2, 45), (0, a0), (0, 50), (0, i4), (0, r11)] (if v.1 = 9 then [] else v :: []) m' Q)) ?_ (fun _ _ h => h)
                generalize hQ1 : (fun v m' => zW E (d) 13 76 [(2, 45), (0, a0), (0, 50), (0, i4), (0, r11)] (if v.1 = 9 then [] else v :: []) m' Q) = Q1
                show zW E (d - 1) 8 0 [(2, 45), (0, (-r11))] [] m61 Q1
                refine zw_7 zr_8_0 rfl ?_
                obtain ⟨f62, ef62⟩ : ∃ v, m61 45 8 = v := ⟨_, rfl⟩
                have bf62 := ib_45_8 hIm61
                rw [ef62] at bf62
                refine zw_46i zr_8_1 ef62 rfl rfl rfl ?_
                refine zw_push zr_8_4 ?_
                refine zw_41_3 zr_8_6 ?_ ?_
                · intro h63
                  refine zw_R zr_8_29 (by decide) zm_8 (v := (9, 0)) rfl ?_
                  rw [← hQ1]
                  show zW E (d) 13 76 [(2, 45), (0, a0), (0, 50), (0, i4), (0, r11)] [] m61 Q
                  refine zw_15 (c := 1) (L' := [(2, 45), (0, a0), (0, 50), (0, (i4 + 1)), (0, r11)]) zr_13_76 rfl (by decide) (by omega) rfl ?_
                  refine zw_42 zr_13_79 ?_
                  exact zw_less (L := [(2, 45), (0, a0), (0, 50), (0, (i4 + 1)), (9, 0)]) ⟨Or.inr rfl, Or.inr rfl, Or.inr rfl, Or.inr rfl, Or.inl rfl, trivial⟩ (ihlp31_6 ((i4 + 1)) m61 hIm61 hFm61   (by omega) (by omega) (by omega))
                · intro h64
                  refine zw_7 zr_8_9 rfl ?_
                  refine zw_46r (s := 48) zr_8_10 rfl rfl rfl rfl ?_
                  refine zw_7 zr_8_13 rfl ?_
                  refine zw_46i zr_8_14 ef62 rfl rfl rfl ?_
                  refine zw_3 zr_8_17 rfl ?_
                  refine zw_49 (c := 48) (len := 50) zr_8_18 rfl rfl (by omega) (by omega) ?_
                  intro m65 em65
                  have hIm65 : zInv m65 := by rw [em65]; exact hIm61.any (by omega) rfl (by decide) (by decide)
                  have hFm65 : zFr W_13 m0 m65 := by rw [em65]; exact hFm61.any rfl
                  have km65_45_7 : m65 45 7 = f60 := by rw [em65, zUp_ne (by omega)]; exact po0_m61
                  have km65_45_8 : m65 45 8 = f62 := by rw [em65, zUp_ne (by omega)]; exact ef62
                  clear em65
                  refine zw_7 zr_8_19 rfl ?_
                  refine zw_43 zr_8_20 rfl ?_
                  refine zw_46i zr_8_21 km65_45_8 rfl rfl rfl ?_
                  refine zw_push zr_8_24 ?_
                  refine zw_16 zr_8_25 (by omega) ?_
                  refine zw_47 (c := 45) zr_8_26 rfl ⟨rfl, by decide, rfl⟩ ?_
                  intro m66 em66
                  have hIm66 : zInv m66 := by rw [em66]; exact hIm65.bd (r := 45) (k := 8) (lo := 0) (hi := 50) rfl (by omega) (by decide) (by decide) (by decide)
                  have hFm66 : zFr W_13 m0 m66 := by rw [em66]; exact hFm65.up rfl
                  have km66_45_7 : m66 45 7 = f60 := by rw [em66, zUp_ne (by omega)]; exact km65_45_7
                  have km66_45_8 : m66 45 8 = (f62 + 1) := by rw [em66]; exact zUp_eq _ _ _ _
                  clear em66
                  refine zw_R zr_8_29 (by decide) zm_8 (v := (9, 0)) rfl ?_
                  rw [← hQ1]
                  show zW E (d) 13 76 [(2, 45), (0, a0), (0, 50), (0, i4), (0, r11)] [] m66 Q
                  refine zw_15 (c := 1) (L' := [(2, 45), (0, a0), (0, 50), (0, (i4 + 1)), (0, r11)]) zr_13_76 rfl (by decide) (by omega) rfl ?_
                  refine zw_42 zr_13_79 ?_
                  exact zw_less (L := [(2, 45), (0, a0), (0, 50), (0, (i4 + 1)), (9, 0)]) ⟨Or.inr rfl, Or.inr rfl, Or.inr rfl, Or.inr rfl, Or.inl rfl, trivial⟩ (ihlp31_6 ((i4 + 1)) m66 hIm66 hFm66   (by omega) (by omega) (by omega))
              · intro h67
                refine zw_R zr_13_51 (by decide) zm_13 (v := (9, 0)) rfl ?_
                rw [← hQ]; exact ⟨rfl, hIm10, hFm10, by omega⟩
            by_cases h68 : r11 = 60
            · refine zw_112 (off := 87) (t := 88) zr_7_1 (by rw [h68]; rfl) rfl ?_
              refine zw_push zr_7_88 ?_
              refine zw_R zr_7_89 (by decide) zm_7 (v := (0, 2)) rfl ?_
              rw [← hQ1]
              show zW E (d) 13 47 [(2, 45), (0, a0), (0, 50), (0, i4), (0, r11)] [(0, 2)] m10 Q
              refine zw_3 zr_13_47 rfl ?_
              refine zw_41_1 zr_13_48 ?_ ?_
              · intro h69
                refine zw_7 zr_13_52 rfl ?_
                refine zw_43 zr_13_53 rfl ?_
                refine zw_46i zr_13_54 ef12 rfl rfl rfl ?_
                refine zw_push zr_13_57 ?_
                refine zw_16 zr_13_58 (by omega) ?_
                refine zw_47 (c := 45) zr_13_59 rfl ⟨rfl, by decide, rfl⟩ ?_
                intro m70 em70
                have hIm70 : zInv m70 := by rw [em70]; exact hIm10.bd (r := 45) (k := 6) (lo := 0) (hi := 50) rfl (by omega) (by decide) (by decide) (by decide)
                have hFm70 : zFr W_13 m0 m70 := by rw [em70]; exact hFm10.up rfl
                have km70_45_6 : m70 45 6 = (f12 + 1) := by rw [em70]; exact zUp_eq _ _ _ _
                clear em70
                refine zw_7 zr_13_62 rfl ?_
                refine zw_3 zr_13_63 rfl ?_
                refine zw_push zr_13_64 ?_
                refine zw_16 zr_13_65 (by omega) ?_
                obtain ⟨f71, ef71⟩ : ∃ v, m70 45 7 = v := ⟨_, rfl⟩
                have bf71 := ib_45_7 hIm70
                rw [ef71] at bf71
                refine zw_C zr_13_66 (Or.inl rfl) zm_13 rfl rfl ⟨Nat.le_of_ble_eq_true rfl, Nat.le_of_ble_eq_true rfl, Nat.le_of_ble_eq_true rfl, rfl, by decide⟩ (by omega) (ih13 m70 ((a0 + 1)) (f71) (by omega) hIm70 ef71 (by omega)) ?_
                rintro _ m72 ⟨rfl, hIm72, gm72, po0_m72⟩
                have hFm72 : zFr W_13 m0 m72 := hFm70.trans gm72 rfl
                show zW E (d) 13 69 [(2, 45), (0, a0), (0, 50), (0, i4), (0, r11)] [] m72 Q
                refine zw_7 zr_13_69 rfl ?_
                refine zw_4 zr_13_70 rfl ?_
                refine zw_38 zr_13_72 (by omega) ?_
                refine zw_C zr_13_73 (Or.inl rfl) zm_8 rfl rfl ⟨Nat.le_of_ble_eq_true rfl, Nat.le_of_ble_eq_true rfl, Nat.le_of_ble_eq_true rfl, rfl, by decide⟩ (by omega) (P := (fun v m' => zW E (d) 13 76 [(2, 45), (0, a0), (0, 50), (0, i4), (0, r11)] (if v.1 = 9 then [] else v :: []) m' Q)) ?_ (fun _ _ h => h)
                generalize hQ1 : (fun v m' => zW E (d) 13 76 [(2, 45), (0, a0), (0, 50), (0, i4), (0, r11)] (if v.1 = 9 then [] else v :: []) m' Q) = Q1
                show zW E (d - 1) 8 0 [(2, 45), (0, (-r11))] [] m72 Q1
                refine zw_7 zr_8_0 rfl ?_
                obtain ⟨f73, ef73⟩ : ∃ v, m72 45 8 = v := ⟨_, rfl⟩
                have bf73 := ib_45_8 hIm72
                rw [ef73] at bf73
                refine zw_46i zr_8_1 ef73 rfl rfl rfl ?_
                refine zw_push zr_8_4 ?_
                refine zw_41_3 zr_8_6 ?_ ?_
                · intro h74
                  refine zw_R zr_8_29 (by decide) zm_8 (v := (9, 0)) rfl ?_
                  rw [← hQ1]
                  show zW E (d) 13 76 [(2, 45), (0, a0), (0, 50), (0, i4), (0, r11)] [] m72 Q
                  refine zw_15 (c := 1) (L' := [(2, 45), (0, a0), (0, 50), (0, (i4 + 1)), (0, r11)]) zr_13_76 rfl (by decide) (by omega) rfl ?_
                  refine zw_42 zr_13_79 ?_
                  exact zw_less (L := [(2, 45), (0, a0), (0, 50), (0, (i4 + 1)), (9, 0)]) ⟨Or.inr rfl, Or.inr rfl, Or.inr rfl, Or.inr rfl, Or.inl rfl, trivial⟩ (ihlp31_6 ((i4 + 1)) m72 hIm72 hFm72   (by omega) (by omega) (by omega))
                · intro h75
                  refine zw_7 zr_8_9 rfl ?_
                  refine zw_46r (s := 48) zr_8_10 rfl rfl rfl rfl ?_
                  refine zw_7 zr_8_13 rfl ?_
                  refine zw_46i zr_8_14 ef73 rfl rfl rfl ?_
                  refine zw_3 zr_8_17 rfl ?_
                  refine zw_49 (c := 48) (len := 50) zr_8_18 rfl rfl (by omega) (by omega) ?_
                  intro m76 em76
                  have hIm76 : zInv m76 := by rw [em76]; exact hIm72.any (by omega) rfl (by decide) (by decide)
                  have hFm76 : zFr W_13 m0 m76 := by rw [em76]; exact hFm72.any rfl
                  have km76_45_7 : m76 45 7 = f71 := by rw [em76, zUp_ne (by omega)]; exact po0_m72
                  have km76_45_8 : m76 45 8 = f73 := by rw [em76, zUp_ne (by omega)]; exact ef73
                  clear em76
                  refine zw_7 zr_8_19 rfl ?_
                  refine zw_43 zr_8_20 rfl ?_
                  refine zw_46i zr_8_21 km76_45_8 rfl rfl rfl ?_
                  refine zw_push zr_8_24 ?_
                  refine zw_16 zr_8_25 (by omega) ?_
                  refine zw_47 (c := 45) zr_8_26 rfl ⟨rfl, by decide, rfl⟩ ?_
                  intro m77 em77
                  have hIm77 : zInv m77 := by rw [em77]; exact hIm76.bd (r := 45) (k := 8) (lo := 0) (hi := 50) rfl (by omega) (by decide) (by decide) (by decide)
                  have hFm77 : zFr W_13 m0 m77 := by rw [em77]; exact hFm76.up rfl
                  have km77_45_7 : m77 45 7 = f71 := by rw [em77, zUp_ne (by omega)]; exact km76_45_7
                  have km77_45_8 : m77 45 8 = (f73 + 1) := by rw [em77]; exact zUp_eq _ _ _ _
                  clear em77
                  refine zw_R zr_8_29 (by decide) zm_8 (v := (9, 0)) rfl ?_
                  rw [← hQ1]
                  show zW E (d) 13 76 [(2, 45), (0, a0), (0, 50), (0, i4), (0, r11)] [] m77 Q
                  refine zw_15 (c := 1) (L' := [(2, 45), (0, a0), (0, 50), (0, (i4 + 1)), (0, r11)]) zr_13_76 rfl (by decide) (by omega) rfl ?_
                  refine zw_42 zr_13_79 ?_
                  exact zw_less (L := [(2, 45), (0, a0), (0, 50), (0, (i4 + 1)), (9, 0)]) ⟨Or.inr rfl, Or.inr rfl, Or.inr rfl, Or.inr rfl, Or.inl rfl, trivial⟩ (ihlp31_6 ((i4 + 1)) m77 hIm77 hFm77   (by omega) (by omega) (by omega))
              · intro h78
                refine zw_R zr_13_51 (by decide) zm_13 (v := (9, 0)) rfl ?_
                rw [← hQ]; exact ⟨rfl, hIm10, hFm10, by omega⟩
            by_cases h79 : r11 = 61
            · refine zw_112 (off := 87) (t := 88) zr_7_1 (by rw [h79]; rfl) rfl ?_
              refine zw_push zr_7_88 ?_
              refine zw_R zr_7_89 (by decide) zm_7 (v := (0, 2)) rfl ?_
              rw [← hQ1]
              show zW E (d) 13 47 [(2, 45), (0, a0), (0, 50), (0, i4), (0, r11)] [(0, 2)] m10 Q
              refine zw_3 zr_13_47 rfl ?_
              refine zw_41_1 zr_13_48 ?_ ?_
              · intro h80
                refine zw_7 zr_13_52 rfl ?_
                refine zw_43 zr_13_53 rfl ?_
                refine zw_46i zr_13_54 ef12 rfl rfl rfl ?_
                refine zw_push zr_13_57 ?_
                refine zw_16 zr_13_58 (by omega) ?_
                refine zw_47 (c := 45) zr_13_59 rfl ⟨rfl, by decide, rfl⟩ ?_
                intro m81 em81
                have hIm81 : zInv m81 := by rw [em81]; exact hIm10.bd (r := 45) (k := 6) (lo := 0) (hi := 50) rfl (by omega) (by decide) (by decide) (by decide)
                have hFm81 : zFr W_13 m0 m81 := by rw [em81]; exact hFm10.up rfl
                have km81_45_6 : m81 45 6 = (f12 + 1) := by rw [em81]; exact zUp_eq _ _ _ _
                clear em81
                refine zw_7 zr_13_62 rfl ?_
                refine zw_3 zr_13_63 rfl ?_
                refine zw_push zr_13_64 ?_
                refine zw_16 zr_13_65 (by omega) ?_
                obtain ⟨f82, ef82⟩ : ∃ v, m81 45 7 = v := ⟨_, rfl⟩
                have bf82 := ib_45_7 hIm81
                rw [ef82] at bf82
                refine zw_C zr_13_66 (Or.inl rfl) zm_13 rfl rfl ⟨Nat.le_of_ble_eq_true rfl, Nat.le_of_ble_eq_true rfl, Nat.le_of_ble_eq_true rfl, rfl, by decide⟩ (by omega) (ih13 m81 ((a0 + 1)) (f82) (by omega) hIm81 ef82 (by omega)) ?_
                rintro _ m83 ⟨rfl, hIm83, gm83, po0_m83⟩
                have hFm83 : zFr W_13 m0 m83 := hFm81.trans gm83 rfl
                show zW E (d) 13 69 [(2, 45), (0, a0), (0, 50), (0, i4), (0, r11)] [] m83 Q
                refine zw_7 zr_13_69 rfl ?_
                refine zw_4 zr_13_70 rfl ?_
                refine zw_38 zr_13_72 (by omega) ?_
                refine zw_C zr_13_73 (Or.inl rfl) zm_8 rfl rfl ⟨Nat.le_of_ble_eq_true rfl, Nat.le_of_ble_eq_true rfl, Nat.le_of_ble_eq_true rfl, rfl, by decide⟩ (by omega) (P := (fun v m' => zW E (d) 13 76 [(2, 45), (0, a0), (0, 50), (0, i4), (0, r11)] (if v.1 = 9 then [] else v :: []) m' Q)) ?_ (fun _ _ h => h)
                generalize hQ1 : (fun v m' => zW E (d) 13 76 [(2, 45), (0, a0), (0, 50), (0, i4), (0, r11)] (if v.1 = 9 then [] else v :: []) m' Q) = Q1
                show zW E (d - 1) 8 0 [(2, 45), (0, (-r11))] [] m83 Q1
                refine zw_7 zr_8_0 rfl ?_
                obtain ⟨f84, ef84⟩ : ∃ v, m83 45 8 = v := ⟨_, rfl⟩
                have bf84 := ib_45_8 hIm83
                rw [ef84] at bf84
                refine zw_46i zr_8_1 ef84 rfl rfl rfl ?_
                refine zw_push zr_8_4 ?_
                refine zw_41_3 zr_8_6 ?_ ?_
                · intro h85
                  refine zw_R zr_8_29 (by decide) zm_8 (v := (9, 0)) rfl ?_
                  rw [← hQ1]
                  show zW E (d) 13 76 [(2, 45), (0, a0), (0, 50), (0, i4), (0, r11)] [] m83 Q
                  refine zw_15 (c := 1) (L' := [(2, 45), (0, a0), (0, 50), (0, (i4 + 1)), (0, r11)]) zr_13_76 rfl (by decide) (by omega) rfl ?_
                  refine zw_42 zr_13_79 ?_
                  exact zw_less (L := [(2, 45), (0, a0), (0, 50), (0, (i4 + 1)), (9, 0)]) ⟨Or.inr rfl, Or.inr rfl, Or.inr rfl, Or.inr rfl, Or.inl rfl, trivial⟩ (ihlp31_6 ((i4 + 1)) m83 hIm83 hFm83   (by omega) (by omega) (by omega))
                · intro h86
                  refine zw_7 zr_8_9 rfl ?_
                  refine zw_46r (s := 48) zr_8_10 rfl rfl rfl rfl ?_
                  refine zw_7 zr_8_13 rfl ?_
                  refine zw_46i zr_8_14 ef84 rfl rfl rfl ?_
                  refine zw_3 zr_8_17 rfl ?_
                  refine zw_49 (c := 48) (len := 50) zr_8_18 rfl rfl (by omega) (by omega) ?_
                  intro m87 em87
                  have hIm87 : zInv m87 := by rw [em87]; exact hIm83.any (by omega) rfl (by decide) (by decide)
                  have hFm87 : zFr W_13 m0 m87 := by rw [em87]; exact hFm83.any rfl
                  have km87_45_7 : m87 45 7 = f82 := by rw [em87, zUp_ne (by omega)]; exact po0_m83
                  have km87_45_8 : m87 45 8 = f84 := by rw [em87, zUp_ne (by omega)]; exact ef84
                  clear em87
                  refine zw_7 zr_8_19 rfl ?_
                  refine zw_43 zr_8_20 rfl ?_
                  refine zw_46i zr_8_21 km87_45_8 rfl rfl rfl ?_
                  refine zw_push zr_8_24 ?_
                  refine zw_16 zr_8_25 (by omega) ?_
                  refine zw_47 (c := 45) zr_8_26 rfl ⟨rfl, by decide, rfl⟩ ?_
                  intro m88 em88
                  have hIm88 : zInv m88 := by rw [em88]; exact hIm87.bd (r := 45) (k := 8) (lo := 0) (hi := 50) rfl (by omega) (by decide) (by decide) (by decide)
                  have hFm88 : zFr W_13 m0 m88 := by rw [em88]; exact hFm87.up rfl
                  have km88_45_7 : m88 45 7 = f82 := by rw [em88, zUp_ne (by omega)]; exact km87_45_7
                  have km88_45_8 : m88 45 8 = (f84 + 1) := by rw [em88]; exact zUp_eq _ _ _ _
                  clear em88
                  refine zw_R zr_8_29 (by decide) zm_8 (v := (9, 0)) rfl ?_
                  rw [← hQ1]
                  show zW E (d) 13 76 [(2, 45), (0, a0), (0, 50), (0, i4), (0, r11)] [] m88 Q
                  refine zw_15 (c := 1) (L' := [(2, 45), (0, a0), (0, 50), (0, (i4 + 1)), (0, r11)]) zr_13_76 rfl (by decide) (by omega) rfl ?_
                  refine zw_42 zr_13_79 ?_
                  exact zw_less (L := [(2, 45), (0, a0), (0, 50), (0, (i4 + 1)), (9, 0)]) ⟨Or.inr rfl, Or.inr rfl, Or.inr rfl, Or.inr rfl, Or.inl rfl, trivial⟩ (ihlp31_6 ((i4 + 1)) m88 hIm88 hFm88   (by omega) (by omega) (by omega))
              · intro h89
                refine zw_R zr_13_51 (by decide) zm_13 (v := (9, 0)) rfl ?_
                rw [← hQ]; exact ⟨rfl, hIm10, hFm10, by omega⟩
            by_cases h90 : r11 = 62
            · refine zw_112 (off := 87) (t := 88) zr_7_1 (by rw [h90]; rfl) rfl ?_
              refine zw_push zr_7_88 ?_
              refine zw_R zr_7_89 (by decide) zm_7 (v := (0, 2)) rfl ?_
              rw [← hQ1]
              show zW E (d) 13 47 [(2, 45), (0, a0), (0, 50), (0, i4), (0, r11)] [(0, 2)] m10 Q
              refine zw_3 zr_13_47 rfl ?_
              refine zw_41_1 zr_13_48 ?_ ?_
              · intro h91
                refine zw_7 zr_13_52 rfl ?_
                refine zw_43 zr_13_53 rfl ?_
                refine zw_46i zr_13_54 ef12 rfl rfl rfl ?_
                refine zw_push zr_13_57 ?_
                refine zw_16 zr_13_58 (by omega) ?_
                refine zw_47 (c := 45) zr_13_59 rfl ⟨rfl, by decide, rfl⟩ ?_
                intro m92 em92
                have hIm92 : zInv m92 := by rw [em92]; exact hIm10.bd (r := 45) (k := 6) (lo := 0) (hi := 50) rfl (by omega) (by decide) (by decide) (by decide)
                have hFm92 : zFr W_13 m0 m92 := by rw [em92]; exact hFm10.up rfl
                have km92_45_6 : m92 45 6 = (f12 + 1) := by rw [em92]; exact zUp_eq _ _ _ _
                clear em92
                refine zw_7 zr_13_62 rfl ?_
                refine zw_3 zr_13_63 rfl ?_
                refine zw_push zr_13_64 ?_
                refine zw_16 zr_13_65 (by omega) ?_
                obtain ⟨f93, ef93⟩ : ∃ v, m92 45 7 = v := ⟨_, rfl⟩
                have bf93 := ib_45_7 hIm92
                rw [ef93] at bf93
                refine zw_C zr_13_66 (Or.inl rfl) zm_13 rfl rfl ⟨Nat.le_of_ble_eq_true rfl, Nat.le_of_ble_eq_true rfl, Nat.le_of_ble_eq_true rfl, rfl, by decide⟩ (by omega) (ih13 m92 ((a0 + 1)) (f93) (by omega) hIm92 ef93 (by omega)) ?_
                rintro _ m94 ⟨rfl, hIm94, gm94, po0_m94⟩
                have hFm94 : zFr W_13 m0 m94 := hFm92.trans gm94 rfl
                show zW E (d) 13 69 [(2, 45), (0, a0), (0, 50), (0, i4), (0, r11)] [] m94 Q
                refine zw_7 zr_13_69 rfl ?_
                refine zw_4 zr_13_70 rfl ?_
                refine zw_38 zr_13_72 (by omega) ?_
                refine zw_C zr_13_73 (Or.inl rfl) zm_8 rfl rfl ⟨Nat.le_of_ble_eq_true rfl, Nat.le_of_ble_eq_true rfl, Nat.le_of_ble_eq_true rfl, rfl, by decide⟩ (by omega) (P := (fun v m' => zW E (d) 13 76 [(2, 45), (0, a0), (0, 50), (0, i4), (0, r11)] (if v.1 = 9 then [] else v :: []) m' Q)) ?_ (fun _ _ h => h)
                generalize hQ1 : (fun v m' => zW E (d) 13 76 [(2, 45), (0, a0), (0, 50), (0, i4), (0, r11)] (if v.1 = 9 then [] else v :: []) m' Q) = Q1
                show zW E (d - 1) 8 0 [(2, 45), (0, (-r11))] [] m94 Q1
                refine zw_7 zr_8_0 rfl ?_
                obtain ⟨f95, ef95⟩ : ∃ v, m94 45 8 = v := ⟨_, rfl⟩
                have bf95 := ib_45_8 hIm94
                rw [ef95] at bf95
                refine zw_46i zr_8_1 ef95 rfl rfl rfl ?_
                refine zw_push zr_8_4 ?_
                refine zw_41_3 zr_8_6 ?_ ?_
                · intro h96
                  refine zw_R zr_8_29 (by decide) zm_8 (v := (9, 0)) rfl ?_
                  rw [← hQ1]
                  show zW E (d) 13 76 [(2, 45), (0, a0), (0, 50), (0, i4), (0, r11)] [] m94 Q
                  refine zw_15 (c := 1) (L' := [(2, 45), (0, a0), (0, 50), (0, (i4 + 1)), (0, r11)]) zr_13_76 rfl (by decide) (by omega) rfl ?_
                  refine zw_42 zr_13_79 ?_
                  exact zw_less (L := [(2, 45), (0, a0), (0, 50), (0, (i4 + 1)), (9, 0)]) ⟨Or.inr rfl, Or.inr rfl, Or.inr rfl, Or.inr rfl, Or.inl rfl, trivial⟩ (ihlp31_6 ((i4 + 1)) m94 hIm94 hFm94   (by omega) (by omega) (by omega))
                · intro h97
                  refine zw_7 zr_8_9 rfl ?_
                  refine zw_46r (s := 48) zr_8_10 rfl rfl rfl rfl ?_
                  refine zw_7 zr_8_13 rfl ?_
                  refine zw_46i zr_8_14 ef95 rfl rfl rfl ?_
                  refine zw_3 zr_8_17 rfl ?_
                  refine zw_49 (c := 48) (len := 50) zr_8_18 rfl rfl (by omega) (by omega) ?_
                  intro m98 em98
                  have hIm98 : zInv m98 := by rw [em98]; exact hIm94.any (by omega) rfl (by decide) (by decide)
                  have hFm98 : zFr W_13 m0 m98 := by rw [em98]; exact hFm94.any rfl
                  have km98_45_7 : m98 45 7 = f93 := by rw [em98, zUp_ne (by omega)]; exact po0_m94
                  have km98_45_8 : m98 45 8 = f95 := by rw [em98, zUp_ne (by omega)]; exact ef95
                  clear em98
                  refine zw_7 zr_8_19 rfl ?_
                  refine zw_43 zr_8_20 rfl ?_
                  refine zw_46i zr_8_21 km98_45_8 rfl rfl rfl ?_
                  refine zw_push zr_8_24 ?_
                  refine zw_16 zr_8_25 (by omega) ?_
                  refine zw_47 (c := 45) zr_8_26 rfl ⟨rfl, by decide, rfl⟩ ?_
                  intro m99 em99
                  have hIm99 : zInv m99 := by rw [em99]; exact hIm98.bd (r := 45) (k := 8) (lo := 0) (hi := 50) rfl (by omega) (by decide) (by decide) (by decide)
                  have hFm99 : zFr W_13 m0 m99 := by rw [em99]; exact hFm98.up rfl
                  have km99_45_7 : m99 45 7 = f93 := by rw [em99, zUp_ne (by omega)]; exact km98_45_7
                  have km99_45_8 : m99 45 8 = (f95 + 1) := by rw [em99]; exact zUp_eq _ _ _ _
                  clear em99
                  refine zw_R zr_8_29 (by decide) zm_8 (v := (9, 0)) rfl ?_
                  rw [← hQ1]
                  show zW E (d) 13 76 [(2, 45), (0, a0), (0, 50), (0, i4), (0, r11)] [] m99 Q
                  refine zw_15 (c := 1) (L' := [(2, 45), (0, a0), (0, 50), (0, (i4 + 1)), (0, r11)]) zr_13_76 rfl (by decide) (by omega) rfl ?_
                  refine zw_42 zr_13_79 ?_
                  exact zw_less (L := [(2, 45), (0, a0), (0, 50), (0, (i4 + 1)), (9, 0)]) ⟨Or.inr rfl, Or.inr rfl, Or.inr rfl, Or.inr rfl, Or.inl rfl, trivial⟩ (ihlp31_6 ((i4 + 1)) m99 hIm99 hFm99   (by omega) (by omega) (by omega))
              · intro h100
                refine zw_R zr_13_51 (by decide) zm_13 (v := (9, 0)) rfl ?_
                rw [← hQ]; exact ⟨rfl, hIm10, hFm10, by omega⟩
            by_cases h101 : r11 = 124
            · refine zw_112 (off := 83) (t := 84) zr_7_1 (by rw [h101]; rfl) rfl ?_
              refine zw_push zr_7_84 ?_
              refine zw_R zr_7_85 (by decide) zm_7 (v := (0, 0)) rfl ?_
              rw [← hQ1]
              show zW E (d) 13 47 [(2, 45), (0, a0), (0, 50), (0, i4), (0, r11)] [(0, 0)] m10 Q
              refine zw_3 zr_13_47 rfl ?_
              refine zw_41_1 zr_13_48 ?_ ?_
              · intro h102
                refine zw_7 zr_13_52 rfl ?_
                refine zw_43 zr_13_53 rfl ?_
                refine zw_46i zr_13_54 ef12 rfl rfl rfl ?_
                refine zw_push zr_13_57 ?_
                refine zw_16 zr_13_58 (by omega) ?_
                refine zw_47 (c := 45) zr_13_59 rfl ⟨rfl, by decide, rfl⟩ ?_
                intro m103 em103
                have hIm103 : zInv m103 := by rw [em103]; exact hIm10.bd (r := 45) (k := 6) (lo := 0) (hi := 50) rfl (by omega) (by decide) (by decide) (by decide)
                have hFm103 : zFr W_13 m0 m103 := by rw [em103]; exact hFm10.up rfl
                have km103_45_6 : m103 45 6 = (f12 + 1) := by rw [em103]; exact zUp_eq _ _ _ _
                clear em103
                refine zw_7 zr_13_62 rfl ?_
                refine zw_3 zr_13_63 rfl ?_
                refine zw_push zr_13_64 ?_
                refine zw_16 zr_13_65 (by omega) ?_
                obtain ⟨f104, ef104⟩ : ∃ v, m103 45 7 = v := ⟨_, rfl⟩
                have bf104 := ib_45_7 hIm103
                rw [ef104] at bf104
                refine zw_C zr_13_66 (Or.inl rfl) zm_13 rfl rfl ⟨Nat.le_of_ble_eq_true rfl, Nat.le_of_ble_eq_true rfl, Nat.le_of_ble_eq_true rfl, rfl, by decide⟩ (by omega) (ih13 m103 ((a0 + 1)) (f104) (by omega) hIm103 ef104 (by omega)) ?_
                rintro _ m105 ⟨rfl, hIm105, gm105, po0_m105⟩
                have hFm105 : zFr W_13 m0 m105 := hFm103.trans gm105 rfl
                show zW E (d) 13 69 [(2, 45), (0, a0), (0, 50), (0, i4), (0, r11)] [] m105 Q
                refine zw_7 zr_13_69 rfl ?_
                refine zw_4 zr_13_70 rfl ?_
                refine zw_38 zr_13_72 (by omega) ?_
                refine zw_C zr_13_73 (Or.inl rfl) zm_8 rfl rfl ⟨Nat.le_of_ble_eq_true rfl, Nat.le_of_ble_eq_true rfl, Nat.le_of_ble_eq_true rfl, rfl, by decide⟩ (by omega) (P := (fun v m' => zW E (d) 13 76 [(2, 45), (0, a0), (0, 50), (0, i4), (0, r11)] (if v.1 = 9 then [] else v :: []) m' Q)) ?_ (fun _ _ h => h)
                generalize hQ1 : (fun v m' => zW E (d) 13 76 [(2, 45), (0, a0), (0, 50), (0, i4), (0, r11)] (if v.1 = 9 then [] else v :: []) m' Q) = Q1
                show zW E (d - 1) 8 0 [(2, 45), (0, (-r11))] [] m105 Q1
                refine zw_7 zr_8_0 rfl ?_
                obtain ⟨f106, ef106⟩ : ∃ v, m105 45 8 = v := ⟨_, rfl⟩
                have bf106 := ib_45_8 hIm105
                rw [ef106] at bf106
                refine zw_46i zr_8_1 ef106 rfl rfl rfl ?_
                refine zw_push zr_8_4 ?_
                refine zw_41_3 zr_8_6 ?_ ?_
                · intro h107
                  refine zw_R zr_8_29 (by decide) zm_8 (v := (9, 0)) rfl ?_
                  rw [← hQ1]
                  show zW E (d) 13 76 [(2, 45), (0, a0), (0, 50), (0, i4), (0, r11)] [] m105 Q
                  refine zw_15 (c := 1) (L' := [(2, 45), (0, a0), (0, 50), (0, (i4 + 1)), (0, r11)]) zr_13_76 rfl (by decide) (by omega) rfl ?_
                  refine zw_42 zr_13_79 ?_
                  exact zw_less (L := [(2, 45), (0, a0), (0, 50), (0, (i4 + 1)), (9, 0)]) ⟨Or.inr rfl, Or.inr rfl, Or.inr rfl, Or.inr rfl, Or.inl rfl, trivial⟩ (ihlp31_6 ((i4 + 1)) m105 hIm105 hFm105   (by omega) (by omega) (by omega))
                · intro h108
                  refine zw_7 zr_8_9 rfl ?_
                  refine zw_46r (s := 48) zr_8_10 rfl rfl rfl rfl ?_
                  refine zw_7 zr_8_13 rfl ?_
                  refine zw_46i zr_8_14 ef106 rfl rfl rfl ?_
                  refine zw_3 zr_8_17 rfl ?_
                  refine zw_49 (c := 48) (len := 50) zr_8_18 rfl rfl (by omega) (by omega) ?_
                  intro m109 em109
                  have hIm109 : zInv m109 := by rw [em109]; exact hIm105.any (by omega) rfl (by decide) (by decide)
                  have hFm109 : zFr W_13 m0 m109 := by rw [em109]; exact hFm105.any rfl
                  have km109_45_7 : m109 45 7 = f104 := by rw [em109, zUp_ne (by omega)]; exact po0_m105
                  have km109_45_8 : m109 45 8 = f106 := by rw [em109, zUp_ne (by omega)]; exact ef106
                  clear em109
                  refine zw_7 zr_8_19 rfl ?_
                  refine zw_43 zr_8_20 rfl ?_
                  refine zw_46i zr_8_21 km109_45_8 rfl rfl rfl ?_
                  refine zw_push zr_8_24 ?_
                  refine zw_16 zr_8_25 (by omega) ?_
                  refine zw_47 (c := 45) zr_8_26 rfl ⟨rfl, by decide, rfl⟩ ?_
                  intro m110 em110
                  have hIm110 : zInv m110 := by rw [em110]; exact hIm109.bd (r := 45) (k := 8) (lo := 0) (hi := 50) rfl (by omega) (by decide) (by decide) (by decide)
                  have hFm110 : zFr W_13 m0 m110 := by rw [em110]; exact hFm109.up rfl
                  have km110_45_7 : m110 45 7 = f104 := by rw [em110, zUp_ne (by omega)]; exact km109_45_7
                  have km110_45_8 : m110 45 8 = (f106 + 1) := by rw [em110]; exact zUp_eq _ _ _ _
                  clear em110
                  refine zw_R zr_8_29 (by decide) zm_8 (v := (9, 0)) rfl ?_
                  rw [← hQ1]
                  show zW E (d) 13 76 [(2, 45), (0, a0), (0, 50), (0, i4), (0, r11)] [] m110 Q
                  refine zw_15 (c := 1) (L' := [(2, 45), (0, a0), (0, 50), (0, (i4 + 1)), (0, r11)]) zr_13_76 rfl (by decide) (by omega) rfl ?_
                  refine zw_42 zr_13_79 ?_
                  exact zw_less (L := [(2, 45), (0, a0), (0, 50), (0, (i4 + 1)), (9, 0)]) ⟨Or.inr rfl, Or.inr rfl, Or.inr rfl, Or.inr rfl, Or.inl rfl, trivial⟩ (ihlp31_6 ((i4 + 1)) m110 hIm110 hFm110   (by omega) (by omega) (by omega))
              · intro h111
                refine zw_R zr_13_51 (by decide) zm_13 (v := (9, 0)) rfl ?_
                rw [← hQ]; exact ⟨rfl, hIm10, hFm10, by omega⟩
            refine zw_112 (off := 93) (t := 94) zr_7_1 (zlsw_df (by simp; omega)) rfl ?_
            refine zw_push zr_7_94 ?_
            refine zw_R zr_7_95 (by decide) zm_7 (v := (0, (-1))) rfl ?_
            rw [← hQ1]
            show zW E (d) 13 47 [(2, 45), (0, a0), (0, 50), (0, i4), (0, r11)] [(0, (-1))] m10 Q
            refine zw_3 zr_13_47 rfl ?_
            refine zw_41_1 zr_13_48 ?_ ?_
            · intro h112; omega
            · intro h113
              refine zw_R zr_13_51 (by decide) zm_13 (v := (9, 0)) rfl ?_
              rw [← hQ]; exact ⟨rfl, hIm10, hFm10, by omega⟩
      exact lp31_6 _ (0) m2 hIm2 hFm2   (by omega) (by omega) (Nat.lt_succ_self _)
    · intro h114
      refine zw_push zr_13_22 ?_
      refine zw_42 zr_13_23 ?_
      refine zw_9 (L' := [(2, 45), (0, a0), (0, 1), (9, 0), (9, 0)]) zr_13_28 (Nat.le_of_ble_eq_true rfl) rfl ?_
      refine zw_push zr_13_29 ?_
      refine zw_9 (L' := [(2, 45), (0, a0), (0, 1), (0, 0), (9, 0)]) zr_13_30 (Nat.le_of_ble_eq_true rfl) rfl ?_
      have lp31_117 : ∀ (nlp31_117 : Nat) (i115 : Int) (m116 : zM), zInv m116 → zFr W_13 m0 m116 → 0 ≤ i115 → i115 ≤ 50 → (50 - i115).toNat < nlp31_117 → zW E (d) 13 31 [(2, 45), (0, a0), (0, 1), (0, i115), (9, 0)] [] m116 Q := by
        intro nlp31_117
        induction nlp31_117 with
        | zero =>
          intros
          exact absurd (by assumption : _ < 0) (Nat.not_lt_zero _)
        | succ nlp31_117 ihlp31_117 =>
          intro i115 m116 hIm116 hFm116 li115 ui115 hmlp31_117
          refine zw_3 zr_13_31 rfl ?_
          refine zw_3 zr_13_32 rfl ?_
          refine zw_41_3 zr_13_33 ?_ ?_
          · intro h119
            refine zw_R zr_13_82 (by decide) zm_13 (v := (9, 0)) rfl ?_
            rw [← hQ]; exact ⟨rfl, hIm116, hFm116, by omega⟩
          · intro h120
            refine zw_7 zr_13_36 rfl ?_
            refine zw_C zr_13_37 (Or.inl rfl) zm_6 rfl rfl ⟨Nat.le_of_ble_eq_true rfl, Nat.le_of_ble_eq_true rfl, Nat.le_of_ble_eq_true rfl, rfl, by decide⟩ (by omega) (th_6 (d := d - 1) (by omega) hIm116    ) ?_
            rintro _ m121 ⟨r122, rfl, hr122a, hr122b, hIm121, gm121, po0_r122⟩
            have hFm121 : zFr W_13 m0 m121 := hFm116.trans gm121 rfl
            obtain ⟨f123, ef123⟩ : ∃ v, m121 45 6 = v := ⟨_, rfl⟩
            have bf123 := ib_45_6 hIm121
            rw [ef123] at bf123
            show zW E (d) 13 40 [(2, 45), (0, a0), (0, 1), (0, i115), (9, 0)] [(0, r122)] m121 Q
            refine zw_10 (L' := [(2, 45), (0, a0), (0, 1), (0, i115), (0, r122)]) zr_13_40 (Nat.le_of_ble_eq_true rfl) rfl ?_
            refine zw_4 zr_13_42 rfl ?_
            refine zw_C zr_13_44 (Or.inr rfl) zm_7 rfl rfl ⟨Nat.le_of_ble_eq_true rfl, Nat.le_of_ble_eq_true rfl, Nat.le_of_ble_eq_true rfl, rfl, by decide⟩ (by omega) (P := (fun v m' => zW E (d) 13 47 [(2, 45), (0, a0), (0, 1), (0, i115), (0, r122)] (if v.1 = 9 then [] else v :: []) m' Q)) ?_ (fun _ _ h => h)
            generalize hQ1 : (fun v m' => zW E (d) 13 47 [(2, 45), (0, a0), (0, 1), (0, i115), (0, r122)] (if v.1 = 9 then [] else v :: []) m' Q) = Q1
            show zW E (d - 1) 7 0 [(0, r122)] [] m121 Q1
            refine zw_3 zr_7_0 rfl ?_
            by_cases h124 : r122 = 38
            · refine zw_112 (off := 85) (t := 86) zr_7_1 (by rw [h124]; rfl) rfl ?_
              refine zw_push zr_7_86 ?_
              refine zw_R zr_7_87 (by decide) zm_7 (v := (0, 1)) rfl ?_
              rw [← hQ1]
              show zW E (d) 13 47 [(2, 45), (0, a0), (0, 1), (0, i115), (0, r122)] [(0, 1)] m121 Q
              refine zw_3 zr_13_47 rfl ?_
              refine zw_41_1 zr_13_48 ?_ ?_
              · intro h125; omega
              · intro h126
                refine zw_R zr_13_51 (by decide) zm_13 (v := (9, 0)) rfl ?_
                rw [← hQ]; exact ⟨rfl, hIm121, hFm121, by omega⟩
            by_cases h127 : r122 = 42
            · refine zw_112 (off := 91) (t := 92) zr_7_1 (by rw [h127]; rfl) rfl ?_
              refine zw_push zr_7_92 ?_
              refine zw_R zr_7_93 (by decide) zm_7 (v := (0, 4)) rfl ?_
              rw [← hQ1]
              show zW E (d) 13 47 [(2, 45), (0, a0), (0, 1), (0, i115), (0, r122)] [(0, 4)] m121 Q
              refine zw_3 zr_13_47 rfl ?_
              refine zw_41_1 zr_13_48 ?_ ?_
              · intro h128; omega
              · intro h129
                refine zw_R zr_13_51 (by decide) zm_13 (v := (9, 0)) rfl ?_
                rw [← hQ]; exact ⟨rfl, hIm121, hFm121, by omega⟩
            by_cases h130 : r122 = 43
            · refine zw_112 (off := 89) (t := 90) zr_7_1 (by rw [h130]; rfl) rfl ?_
              refine zw_push zr_7_90 ?_
              refine zw_R zr_7_91 (by decide) zm_7 (v := (0, 3)) rfl ?_
              rw [← hQ1]
              show zW E (d) 13 47 [(2, 45), (0, a0), (0, 1), (0, i115), (0, r122)] [(0, 3)] m121 Q
              refine zw_3 zr_13_47 rfl ?_
              refine zw_41_1 zr_13_48 ?_ ?_
              · intro h131; omega
              · intro h132
                refine zw_R zr_13_51 (by decide) zm_13 (v := (9, 0)) rfl ?_
                rw [← hQ]; exact ⟨rfl, hIm121, hFm121, by omega⟩
            by_cases h133 : r122 = 45
            · refine zw_112 (off := 89) (t := 90) zr_7_1 (by rw [h133]; rfl) rfl ?_
              refine zw_push zr_7_90 ?_
              refine zw_R zr_7_91 (by decide) zm_7 (v := (0, 3)) rfl ?_
              rw [← hQ1]
              show zW E (d) 13 47 [(2, 45), (0, a0), (0, 1), (0, i115), (0, r122)] [(0, 3)] m121 Q
              refine zw_3 zr_13_47 rfl ?_
              refine zw_41_1 zr_13_48 ?_ ?_
              · intro h134; omega
              · intro h135
                refine zw_R zr_13_51 (by decide) zm_13 (v := (9, 0)) rfl ?_
                rw [← hQ]; exact ⟨rfl, hIm121, hFm121, by omega⟩
            by_cases h136 : r122 = 47
            · refine zw_112 (off := 91) (t := 92) zr_7_1 (by rw [h136]; rfl) rfl ?_
              refine zw_push zr_7_92 ?_
              refine zw_R zr_7_93 (by decide) zm_7 (v := (0, 4)) rfl ?_
              rw [← hQ1]
              show zW E (d) 13 47 [(2, 45), (0, a0), (0, 1), (0, i115), (0, r122)] [(0, 4)] m121 Q
              refine zw_3 zr_13_47 rfl ?_
              refine zw_41_1 zr_13_48 ?_ ?_
              · intro h137; omega
              · intro h138
                refine zw_R zr_13_51 (by decide) zm_13 (v := (9, 0)) rfl ?_
                rw [← hQ]; exact ⟨rfl, hIm121, hFm121, by omega⟩
            by_cases h139 : r122 = 60
            · refine zw_112 (off := 87) (t := 88) zr_7_1 (by rw [h139]; rfl) rfl ?_
              refine zw_push zr_7_88 ?_
              refine zw_R zr_7_89 (by decide) zm_7 (v := (0, 2)) rfl ?_
              rw [← hQ1]
              show zW E (d) 13 47 [(2, 45), (0, a0), (0, 1), (0, i115), (0, r122)] [(0, 2)] m121 Q
              refine zw_3 zr_13_47 rfl ?_
              refine zw_41_1 zr_13_48 ?_ ?_
              · intro h140
                refine zw_7 zr_13_52 rfl ?_
                refine zw_43 zr_13_53 rfl ?_
                refine zw_46i zr_13_54 ef123 rfl rfl rfl ?_
                refine zw_push zr_13_57 ?_
                refine zw_16 zr_13_58 (by omega) ?_
                refine zw_47 (c := 45) zr_13_59 rfl ⟨rfl, by decide, rfl⟩ ?_
                intro m141 em141
                have hIm141 : zInv m141 := by rw [em141]; exact hIm121.bd (r := 45) (k := 6) (lo := 0) (hi := 50) rfl (by omega) (by decide) (by decide) (by decide)
                have hFm141 : zFr W_13 m0 m141 := by rw [em141]; exact hFm121.up rfl
                have km141_45_6 : m141 45 6 = (f123 + 1) := by rw [em141]; exact zUp_eq _ _ _ _
                clear em141
                refine zw_7 zr_13_62 rfl ?_
                refine zw_3 zr_13_63 rfl ?_
                refine zw_push zr_13_64 ?_
                refine zw_16 zr_13_65 (by omega) ?_
                obtain ⟨f142, ef142⟩ : ∃ v, m141 45 7 = v := ⟨_, rfl⟩
                have bf142 := ib_45_7 hIm141
                rw [ef142] at bf142
                refine zw_C zr_13_66 (Or.inl rfl) zm_13 rfl rfl ⟨Nat.le_of_ble_eq_true rfl, Nat.le_of_ble_eq_true rfl, Nat.le_of_ble_eq_true rfl, rfl, by decide⟩ (by omega) (ih13 m141 ((a0 + 1)) (f142) (by omega) hIm141 ef142 (by omega)) ?_
                rintro _ m143 ⟨rfl, hIm143, gm143, po0_m143⟩
                have hFm143 : zFr W_13 m0 m143 := hFm141.trans gm143 rfl
                show zW E (d) 13 69 [(2, 45), (0, a0), (0, 1), (0, i115), (0, r122)] [] m143 Q
                refine zw_7 zr_13_69 rfl ?_
                refine zw_4 zr_13_70 rfl ?_
                refine zw_38 zr_13_72 (by omega) ?_
                refine zw_C zr_13_73 (Or.inl rfl) zm_8 rfl rfl ⟨Nat.le_of_ble_eq_true rfl, Nat.le_of_ble_eq_true rfl, Nat.le_of_ble_eq_true rfl, rfl, by decide⟩ (by omega) (P := (fun v m' => zW E (d) 13 76 [(2, 45), (0, a0), (0, 1), (0, i115), (0, r122)] (if v.1 = 9 then [] else v :: []) m' Q)) ?_ (fun _ _ h => h)
                generalize hQ1 : (fun v m' => zW E (d) 13 76 [(2, 45), (0, a0), (0, 1), (0, i115), (0, r122)] (if v.1 = 9 then [] else v :: []) m' Q) = Q1
                show zW E (d - 1) 8 0 [(2, 45), (0, (-r122))] [] m143 Q1
                refine zw_7 zr_8_0 rfl ?_
                obtain ⟨f144, ef144⟩ : ∃ v, m143 45 8 = v := ⟨_, rfl⟩
                have bf144 := ib_45_8 hIm143
                rw [ef144] at bf144
                refine zw_46i zr_8_1 ef144 rfl rfl rfl ?_
                refine zw_push zr_8_4 ?_
                refine zw_41_3 zr_8_6 ?_ ?_
                · intro h145
                  refine zw_R zr_8_29 (by decide) zm_8 (v := (9, 0)) rfl ?_
                  rw [← hQ1]
                  show zW E (d) 13 76 [(2, 45), (0, a0), (0, 1), (0, i115), (0, r122)] [] m143 Q
                  refine zw_15 (c := 1) (L' := [(2, 45), (0, a0), (0, 1), (0, (i115 + 1)), (0, r122)]) zr_13_76 rfl (by decide) (by omega) rfl ?_
                  refine zw_42 zr_13_79 ?_
                  exact zw_less (L := [(2, 45), (0, a0), (0, 1), (0, (i115 + 1)), (9, 0)]) ⟨Or.inr rfl, Or.inr rfl, Or.inr rfl, Or.inr rfl, Or.inl rfl, trivial⟩ (ihlp31_117 ((i115 + 1)) m143 hIm143 hFm143   (by omega) (by omega) (by omega))
                · intro h146
                  refine zw_7 zr_8_9 rfl ?_
                  refine zw_46r (s := 48) zr_8_10 rfl rfl rfl rfl ?_
                  refine zw_7 zr_8_13 rfl ?_
                  refine zw_46i zr_8_14 ef144 rfl rfl rfl ?_
                  refine zw_3 zr_8_17 rfl ?_
                  refine zw_49 (c := 48) (len := 50) zr_8_18 rfl rfl (by omega) (by omega) ?_
                  intro m147 em147
                  have hIm147 : zInv m147 := by rw [em147]; exact hIm143.any (by omega) rfl (by decide) (by decide)
                  have hFm147 : zFr W_13 m0 m147 := by rw [em147]; exact hFm143.any rfl
                  have km147_45_7 : m147 45 7 = f142 := by rw [em147, zUp_ne (by omega)]; exact po0_m143
                  have km147_45_8 : m147 45 8 = f144 := by rw [em147, zUp_ne (by omega)]; exact ef144
                  clear em147
                  refine zw_7 zr_8_19 rfl ?_
                  refine zw_43 zr_8_20 rfl ?_
                  refine zw_46i zr_8_21 km147_45_8 rfl rfl rfl ?_
                  refine zw_push zr_8_24 ?_
                  refine zw_16 zr_8_25 (by omega) ?_
                  refine zw_47 (c := 45) zr_8_26 rfl ⟨rfl, by decide, rfl⟩ ?_
                  intro m148 em148
                  have hIm148 : zInv m148 := by rw [em148]; exact hIm147.bd (r := 45) (k := 8) (lo := 0) (hi := 50) rfl (by omega) (by decide) (by decide) (by decide)
                  have hFm148 : zFr W_13 m0 m148 := by rw [em148]; exact hFm147.up rfl
                  have km148_45_7 : m148 45 7 = f142 := by rw [em148, zUp_ne (by omega)]; exact km147_45_7
                  have km148_45_8 : m148 45 8 = (f144 + 1) := by rw [em148]; exact zUp_eq _ _ _ _
                  clear em148
                  refine zw_R zr_8_29 (by decide) zm_8 (v := (9, 0)) rfl ?_
                  rw [← hQ1]
                  show zW E (d) 13 76 [(2, 45), (0, a0), (0, 1), (0, i115), (0, r122)] [] m148 Q
                  refine zw_15 (c := 1) (L' := [(2, 45), (0, a0), (0, 1), (0, (i115 + 1)), (0, r122)]) zr_13_76 rfl (by decide) (by omega) rfl ?_
                  refine zw_42 zr_13_79 ?_
                  exact zw_less (L := [(2, 45), (0, a0), (0, 1), (0, (i115 + 1)), (9, 0)]) ⟨Or.inr rfl, Or.inr rfl, Or.inr rfl, Or.inr rfl, Or.inl rfl, trivial⟩ (ihlp31_117 ((i115 + 1)) m148 hIm148 hFm148   (by omega) (by omega) (by omega))
              · intro h149; omega
            by_cases h150 : r122 = 61
            · refine zw_112 (off := 87) (t := 88) zr_7_1 (by rw [h150]; rfl) rfl ?_
              refine zw_push zr_7_88 ?_
              refine zw_R zr_7_89 (by decide) zm_7 (v := (0, 2)) rfl ?_
              rw [← hQ1]
              show zW E (d) 13 47 [(2, 45), (0, a0), (0, 1), (0, i115), (0, r122)] [(0, 2)] m121 Q
              refine zw_3 zr_13_47 rfl ?_
              refine zw_41_1 zr_13_48 ?_ ?_
              · intro h151
                refine zw_7 zr_13_52 rfl ?_
                refine zw_43 zr_13_53 rfl ?_
                refine zw_46i zr_13_54 ef123 rfl rfl rfl ?_
                refine zw_push zr_13_57 ?_
                refine zw_16 zr_13_58 (by omega) ?_
                refine zw_47 (c := 45) zr_13_59 rfl ⟨rfl, by decide, rfl⟩ ?_
                intro m152 em152
                have hIm152 : zInv m152 := by rw [em152]; exact hIm121.bd (r := 45) (k := 6) (lo := 0) (hi := 50) rfl (by omega) (by decide) (by decide) (by decide)
                have hFm152 : zFr W_13 m0 m152 := by rw [em152]; exact hFm121.up rfl
                have km152_45_6 : m152 45 6 = (f123 + 1) := by rw [em152]; exact zUp_eq _ _ _ _
                clear em152
                refine zw_7 zr_13_62 rfl ?_
                refine zw_3 zr_13_63 rfl ?_
                refine zw_push zr_13_64 ?_
                refine zw_16 zr_13_65 (by omega) ?_
                obtain ⟨f153, ef153⟩ : ∃ v, m152 45 7 = v := ⟨_, rfl⟩
                have bf153 := ib_45_7 hIm152
                rw [ef153] at bf153
                refine zw_C zr_13_66 (Or.inl rfl) zm_13 rfl rfl ⟨Nat.le_of_ble_eq_true rfl, Nat.le_of_ble_eq_true rfl, Nat.le_of_ble_eq_true rfl, rfl, by decide⟩ (by omega) (ih13 m152 ((a0 + 1)) (f153) (by omega) hIm152 ef153 (by omega)) ?_
                rintro _ m154 ⟨rfl, hIm154, gm154, po0_m154⟩
                have hFm154 : zFr W_13 m0 m154 := hFm152.trans gm154 rfl
                show zW E (d) 13 69 [(2, 45), (0, a0), (0, 1), (0, i115), (0, r122)] [] m154 Q
                refine zw_7 zr_13_69 rfl ?_
                refine zw_4 zr_13_70 rfl ?_
                refine zw_38 zr_13_72 (by omega) ?_
                refine zw_C zr_13_73 (Or.inl rfl) zm_8 rfl rfl ⟨Nat.le_of_ble_eq_true rfl, Nat.le_of_ble_eq_true rfl, Nat.le_of_ble_eq_true rfl, rfl, by decide⟩ (by omega) (P := (fun v m' => zW E (d) 13 76 [(2, 45), (0, a0), (0, 1), (0, i115), (0, r122)] (if v.1 = 9 then [] else v :: []) m' Q)) ?_ (fun _ _ h => h)
                generalize hQ1 : (fun v m' => zW E (d) 13 76 [(2, 45), (0, a0), (0, 1), (0, i115), (0, r122)] (if v.1 = 9 then [] else v :: []) m' Q) = Q1
                show zW E (d - 1) 8 0 [(2, 45), (0, (-r122))] [] m154 Q1
                refine zw_7 zr_8_0 rfl ?_
                obtain ⟨f155, ef155⟩ : ∃ v, m154 45 8 = v := ⟨_, rfl⟩
                have bf155 := ib_45_8 hIm154
                rw [ef155] at bf155
                refine zw_46i zr_8_1 ef155 rfl rfl rfl ?_
                refine zw_push zr_8_4 ?_
                refine zw_41_3 zr_8_6 ?_ ?_
                · intro h156
                  refine zw_R zr_8_29 (by decide) zm_8 (v := (9, 0)) rfl ?_
                  rw [← hQ1]
                  show zW E (d) 13 76 [(2, 45), (0, a0), (0, 1), (0, i115), (0, r122)] [] m154 Q
                  refine zw_15 (c := 1) (L' := [(2, 45), (0, a0), (0, 1), (0, (i115 + 1)), (0, r122)]) zr_13_76 rfl (by decide) (by omega) rfl ?_
                  refine zw_42 zr_13_79 ?_
                  exact zw_less (L := [(2, 45), (0, a0), (0, 1), (0, (i115 + 1)), (9, 0)]) ⟨Or.inr rfl, Or.inr rfl, Or.inr rfl, Or.inr rfl, Or.inl rfl, trivial⟩ (ihlp31_117 ((i115 + 1)) m154 hIm154 hFm154   (by omega) (by omega) (by omega))
                · intro h157
                  refine zw_7 zr_8_9 rfl ?_
                  refine zw_46r (s := 48) zr_8_10 rfl rfl rfl rfl ?_
                  refine zw_7 zr_8_13 rfl ?_
                  refine zw_46i zr_8_14 ef155 rfl rfl rfl ?_
                  refine zw_3 zr_8_17 rfl ?_
                  refine zw_49 (c := 48) (len := 50) zr_8_18 rfl rfl (by omega) (by omega) ?_
                  intro m158 em158
                  have hIm158 : zInv m158 := by rw [em158]; exact hIm154.any (by omega) rfl (by decide) (by decide)
                  have hFm158 : zFr W_13 m0 m158 := by rw [em158]; exact hFm154.any rfl
                  have km158_45_7 : m158 45 7 = f153 := by rw [em158, zUp_ne (by omega)]; exact po0_m154
                  have km158_45_8 : m158 45 8 = f155 := by rw [em158, zUp_ne (by omega)]; exact ef155
                  clear em158
                  refine zw_7 zr_8_19 rfl ?_
                  refine zw_43 zr_8_20 rfl ?_
                  refine zw_46i zr_8_21 km158_45_8 rfl rfl rfl ?_
                  refine zw_push zr_8_24 ?_
                  refine zw_16 zr_8_25 (by omega) ?_
                  refine zw_47 (c := 45) zr_8_26 rfl ⟨rfl, by decide, rfl⟩ ?_
                  intro m159 em159
                  have hIm159 : zInv m159 := by rw [em159]; exact hIm158.bd (r := 45) (k := 8) (lo := 0) (hi := 50) rfl (by omega) (by decide) (by decide) (by decide)
                  have hFm159 : zFr W_13 m0 m159 := by rw [em159]; exact hFm158.up rfl
                  have km159_45_7 : m159 45 7 = f153 := by rw [em159, zUp_ne (by omega)]; exact km158_45_7
                  have km159_45_8 : m159 45 8 = (f155 + 1) := by rw [em159]; exact zUp_eq _ _ _ _
                  clear em159
                  refine zw_R zr_8_29 (by decide) zm_8 (v := (9, 0)) rfl ?_
                  rw [← hQ1]
                  show zW E (d) 13 76 [(2, 45), (0, a0), (0, 1), (0, i115), (0, r122)] [] m159 Q
                  refine zw_15 (c := 1) (L' := [(2, 45), (0, a0), (0, 1), (0, (i115 + 1)), (0, r122)]) zr_13_76 rfl (by decide) (by omega) rfl ?_
                  refine zw_42 zr_13_79 ?_
                  exact zw_less (L := [(2, 45), (0, a0), (0, 1), (0, (i115 + 1)), (9, 0)]) ⟨Or.inr rfl, Or.inr rfl, Or.inr rfl, Or.inr rfl, Or.inl rfl, trivial⟩ (ihlp31_117 ((i115 + 1)) m159 hIm159 hFm159   (by omega) (by omega) (by omega))
              · intro h160; omega
            by_cases h161 : r122 = 62
            · refine zw_112 (off := 87) (t := 88) zr_7_1 (by rw [h161]; rfl) rfl ?_
              refine zw_push zr_7_88 ?_
              refine zw_R zr_7_89 (by decide) zm_7 (v := (0, 2)) rfl ?_
              rw [← hQ1]
              show zW E (d) 13 47 [(2, 45), (0, a0), (0, 1), (0, i115), (0, r122)] [(0, 2)] m121 Q
              refine zw_3 zr_13_47 rfl ?_
              refine zw_41_1 zr_13_48 ?_ ?_
              · intro h162
                refine zw_7 zr_13_52 rfl ?_
                refine zw_43 zr_13_53 rfl ?_
                refine zw_46i zr_13_54 ef123 rfl rfl rfl ?_
                refine zw_push zr_13_57 ?_
                refine zw_16 zr_13_58 (by omega) ?_
                refine zw_47 (c := 45) zr_13_59 rfl ⟨rfl, by decide, rfl⟩ ?_
                intro m163 em163
                have hIm163 : zInv m163 := by rw [em163]; exact hIm121.bd (r := 45) (k := 6) (lo := 0) (hi := 50) rfl (by omega) (by decide) (by decide) (by decide)
                have hFm163 : zFr W_13 m0 m163 := by rw [em163]; exact hFm121.up rfl
                have km163_45_6 : m163 45 6 = (f123 + 1) := by rw [em163]; exact zUp_eq _ _ _ _
                clear em163
                refine zw_7 zr_13_62 rfl ?_
                refine zw_3 zr_13_63 rfl ?_
                refine zw_push zr_13_64 ?_
                refine zw_16 zr_13_65 (by omega) ?_
                obtain ⟨f164, ef164⟩ : ∃ v, m163 45 7 = v := ⟨_, rfl⟩
                have bf164 := ib_45_7 hIm163
                rw [ef164] at bf164
                refine zw_C zr_13_66 (Or.inl rfl) zm_13 rfl rfl ⟨Nat.le_of_ble_eq_true rfl, Nat.le_of_ble_eq_true rfl, Nat.le_of_ble_eq_true rfl, rfl, by decide⟩ (by omega) (ih13 m163 ((a0 + 1)) (f164) (by omega) hIm163 ef164 (by omega)) ?_
                rintro _ m165 ⟨rfl, hIm165, gm165, po0_m165⟩
                have hFm165 : zFr W_13 m0 m165 := hFm163.trans gm165 rfl
                show zW E (d) 13 69 [(2, 45), (0, a0), (0, 1), (0, i115), (0, r122)] [] m165 Q
                refine zw_7 zr_13_69 rfl ?_
                refine zw_4 zr_13_70 rfl ?_
                refine zw_38 zr_13_72 (by omega) ?_
                refine zw_C zr_13_73 (Or.inl rfl) zm_8 rfl rfl ⟨Nat.le_of_ble_eq_true rfl, Nat.le_of_ble_eq_true rfl, Nat.le_of_ble_eq_true rfl, rfl, by decide⟩ (by omega) (P := (fun v m' => zW E (d) 13 76 [(2, 45), (0, a0), (0, 1), (0, i115), (0, r122)] (if v.1 = 9 then [] else v :: []) m' Q)) ?_ (fun _ _ h => h)
                generalize hQ1 : (fun v m' => zW E (d) 13 76 [(2, 45), (0, a0), (0, 1), (0, i115), (0, r122)] (if v.1 = 9 then [] else v :: []) m' Q) = Q1
                show zW E (d - 1) 8 0 [(2, 45), (0, (-r122))] [] m165 Q1
                refine zw_7 zr_8_0 rfl ?_
                obtain ⟨f166, ef166⟩ : ∃ v, m165 45 8 = v := ⟨_, rfl⟩
                have bf166 := ib_45_8 hIm165
                rw [ef166] at bf166
                refine zw_46i zr_8_1 ef166 rfl rfl rfl ?_
                refine zw_push zr_8_4 ?_
                refine zw_41_3 zr_8_6 ?_ ?_
                · intro h167
                  refine zw_R zr_8_29 (by decide) zm_8 (v := (9, 0)) rfl ?_
                  rw [← hQ1]
                  show zW E (d) 13 76 [(2, 45), (0, a0), (0, 1), (0, i115), (0, r122)] [] m165 Q
                  refine zw_15 (c := 1) (L' := [(2, 45), (0, a0), (0, 1), (0, (i115 + 1)), (0, r122)]) zr_13_76 rfl (by decide) (by omega) rfl ?_
                  refine zw_42 zr_13_79 ?_
                  exact zw_less (L := [(2, 45), (0, a0), (0, 1), (0, (i115 + 1)), (9, 0)]) ⟨Or.inr rfl, Or.inr rfl, Or.inr rfl, Or.inr rfl, Or.inl rfl, trivial⟩ (ihlp31_117 ((i115 + 1)) m165 hIm165 hFm165   (by omega) (by omega) (by omega))
                · intro h168
                  refine zw_7 zr_8_9 rfl ?_
                  refine zw_46r (s := 48) zr_8_10 rfl rfl rfl rfl ?_
                  refine zw_7 zr_8_13 rfl ?_
                  refine zw_46i zr_8_14 ef166 rfl rfl rfl ?_
                  refine zw_3 zr_8_17 rfl ?_
                  refine zw_49 (c := 48) (len := 50) zr_8_18 rfl rfl (by omega) (by omega) ?_
                  intro m169 em169
                  have hIm169 : zInv m169 := by rw [em169]; exact hIm165.any (by omega) rfl (by decide) (by decide)
                  have hFm169 : zFr W_13 m0 m169 := by rw [em169]; exact hFm165.any rfl
                  have km169_45_7 : m169 45 7 = f164 := by rw [em169, zUp_ne (by omega)]; exact po0_m165
                  have km169_45_8 : m169 45 8 = f166 := by rw [em169, zUp_ne (by omega)]; exact ef166
                  clear em169
                  refine zw_7 zr_8_19 rfl ?_
                  refine zw_43 zr_8_20 rfl ?_
                  refine zw_46i zr_8_21 km169_45_8 rfl rfl rfl ?_
                  refine zw_push zr_8_24 ?_
                  refine zw_16 zr_8_25 (by omega) ?_
                  refine zw_47 (c := 45) zr_8_26 rfl ⟨rfl, by decide, rfl⟩ ?_
                  intro m170 em170
                  have hIm170 : zInv m170 := by rw [em170]; exact hIm169.bd (r := 45) (k := 8) (lo := 0) (hi := 50) rfl (by omega) (by decide) (by decide) (by decide)
                  have hFm170 : zFr W_13 m0 m170 := by rw [em170]; exact hFm169.up rfl
                  have km170_45_7 : m170 45 7 = f164 := by rw [em170, zUp_ne (by omega)]; exact km169_45_7
                  have km170_45_8 : m170 45 8 = (f166 + 1) := by rw [em170]; exact zUp_eq _ _ _ _
                  clear em170
                  refine zw_R zr_8_29 (by decide) zm_8 (v := (9, 0)) rfl ?_
                  rw [← hQ1]
                  show zW E (d) 13 76 [(2, 45), (0, a0), (0, 1), (0, i115), (0, r122)] [] m170 Q
                  refine zw_15 (c := 1) (L' := [(2, 45), (0, a0), (0, 1), (0, (i115 + 1)), (0, r122)]) zr_13_76 rfl (by decide) (by omega) rfl ?_
                  refine zw_42 zr_13_79 ?_
                  exact zw_less (L := [(2, 45), (0, a0), (0, 1), (0, (i115 + 1)), (9, 0)]) ⟨Or.inr rfl, Or.inr rfl, Or.inr rfl, Or.inr rfl, Or.inl rfl, trivial⟩ (ihlp31_117 ((i115 + 1)) m170 hIm170 hFm170   (by omega) (by omega) (by omega))
              · intro h171; omega
            by_cases h172 : r122 = 124
            · refine zw_112 (off := 83) (t := 84) zr_7_1 (by rw [h172]; rfl) rfl ?_
              refine zw_push zr_7_84 ?_
              refine zw_R zr_7_85 (by decide) zm_7 (v := (0, 0)) rfl ?_
              rw [← hQ1]
              show zW E (d) 13 47 [(2, 45), (0, a0), (0, 1), (0, i115), (0, r122)] [(0, 0)] m121 Q
              refine zw_3 zr_13_47 rfl ?_
              refine zw_41_1 zr_13_48 ?_ ?_
              · intro h173; omega
              · intro h174
                refine zw_R zr_13_51 (by decide) zm_13 (v := (9, 0)) rfl ?_
                rw [← hQ]; exact ⟨rfl, hIm121, hFm121, by omega⟩
            refine zw_112 (off := 93) (t := 94) zr_7_1 (zlsw_df (by simp; omega)) rfl ?_
            refine zw_push zr_7_94 ?_
            refine zw_R zr_7_95 (by decide) zm_7 (v := (0, (-1))) rfl ?_
            rw [← hQ1]
            show zW E (d) 13 47 [(2, 45), (0, a0), (0, 1), (0, i115), (0, r122)] [(0, (-1))] m121 Q
            refine zw_3 zr_13_47 rfl ?_
            refine zw_41_1 zr_13_48 ?_ ?_
            · intro h175; omega
            · intro h176
              refine zw_R zr_13_51 (by decide) zm_13 (v := (9, 0)) rfl ?_
              rw [← hQ]; exact ⟨rfl, hIm121, hFm121, by omega⟩
      exact lp31_117 _ (0) m2 hIm2 hFm2   (by omega) (by omega) (Nat.lt_succ_self _)
  · intro h177
    refine zw_7 zr_13_5 rfl ?_
    refine zw_C zr_13_6 (Or.inl rfl) zm_14 rfl rfl ⟨Nat.le_of_ble_eq_true rfl, Nat.le_of_ble_eq_true rfl, Nat.le_of_ble_eq_true rfl, rfl, by decide⟩ (by omega) (ih14 m0 (g0) (by omega) hI0 hg0 ) ?_
    rintro _ m178 ⟨rfl, hIm178, gm178, po0_m178⟩
    have hFm178 : zFr W_13 m0 m178 := hF0.trans gm178 rfl
    show zW E (d) 13 9 [(2, 45), (0, a0), (9, 0), (9, 0), (9, 0)] [] m178 Q
    refine zw_R zr_13_9 (by decide) zm_13 (v := (9, 0)) rfl ?_
    rw [← hQ]; exact ⟨rfl, hIm178, hFm178, by omega⟩
set_option maxHeartbeats 8000000 in
theorem tr_14 {E : zE} {d : Nat} (ih13 : rs_13 E (d - 1)) (ih14 : rs_14 E (d - 1)) (ih12 : rs_12 E (d - 1)) : rs_14 E d := by
  intro m0 g0 hd hI0 hg0
  have hF0 : zFr W_14 m0 m0 := zFr.rfl
  have bg0 := ib_45_7 hI0
  rw [hg0] at bg0
  generalize hQ : (fun (v : zV) (m' : zM) => v = (9, 0) ∧ zInv m' ∧ zFr W_14 m0 m' ∧ (m' 45 7 = g0)) = Q
  show zW E d 14 0 [(2, 45), (9, 0), (9, 0), (9, 0)] [] m0 Q
  refine zw_7 zr_14_0 rfl ?_
  obtain ⟨f1, ef1⟩ : ∃ v, m0 45 6 = v := ⟨_, rfl⟩
  have bf1 := ib_45_6 hI0
  rw [ef1] at bf1
  refine zw_46i zr_14_1 ef1 rfl rfl rfl ?_
  refine zw_9 (L' := [(2, 45), (0, f1), (9, 0), (9, 0)]) zr_14_4 (Nat.le_of_ble_eq_true rfl) rfl ?_
  refine zw_7 zr_14_5 rfl ?_
  refine zw_C zr_14_6 (Or.inl rfl) zm_6 rfl rfl ⟨Nat.le_of_ble_eq_true rfl, Nat.le_of_ble_eq_true rfl, Nat.le_of_ble_eq_true rfl, rfl, by decide⟩ (by omega) (th_6 (d := d - 1) (by omega) hI0    ) ?_
  rintro _ m2 ⟨r3, rfl, hr3a, hr3b, hIm2, gm2, po0_r3⟩
  have hFm2 : zFr W_14 m0 m2 := hF0.trans gm2 rfl
  have km2_45_7 : m2 45 7 = g0 := (gm2 45 7 rfl).trans hg0
  obtain ⟨f4, ef4⟩ : ∃ v, m2 45 6 = v := ⟨_, rfl⟩
  have bf4 := ib_45_6 hIm2
  rw [ef4] at bf4
  show zW E (d) 14 9 [(2, 45), (0, f1), (9, 0), (9, 0)] [(0, r3)] m2 Q
  refine zw_9 (L' := [(2, 45), (0, f1), (0, r3), (9, 0)]) zr_14_9 (Nat.le_of_ble_eq_true rfl) rfl ?_
  refine zw_push zr_14_10 ?_
  refine zw_9 (L' := [(2, 45), (0, f1), (0, r3), (0, 0)]) zr_14_11 (Nat.le_of_ble_eq_true rfl) rfl ?_
  have lp12_9 : ∀ (nlp12_9 : Nat) (i5 i6 p8 : Int) (m7 : zM), zInv m7 → zFr W_14 m0 m7 → m7 45 6 = p8 → (-1) ≤ i5 → i5 ≤ 127 → 0 ≤ i6 → i6 ≤ 50 → 0 ≤ p8 → p8 ≤ 50 → (i5 = -1 ∨ p8 ≤ 49) → (50 - i6).toNat < nlp12_9 → zW E (d) 14 12 [(2, 45), (0, f1), (0, i5), (0, i6)] [] m7 Q := by
    intro nlp12_9
    induction nlp12_9 with
    | zero =>
      intros
      exact absurd (by assumption : _ < 0) (Nat.not_lt_zero _)
    | succ nlp12_9 ihlp12_9 =>
      intro i5 i6 p8 m7 hIm7 hFm7 km7_45_6 li5 ui5 li6 ui6 lp8 up8 hv0lp12_9 hmlp12_9
      refine zw_3 zr_14_12 rfl ?_
      refine zw_push zr_14_13 ?_
      refine zw_41_3 zr_14_15 ?_ ?_
      · intro h11
        refine zw_7 zr_14_51 rfl ?_
        refine zw_46i zr_14_52 km7_45_6 rfl rfl rfl ?_
        refine zw_9 (L' := [(2, 45), (0, f1), (0, i5), (0, p8)]) zr_14_55 (Nat.le_of_ble_eq_true rfl) rfl ?_
        refine zw_3 zr_14_56 rfl ?_
        refine zw_push zr_14_57 ?_
        refine zw_41_0 zr_14_59 ?_ ?_
        · intro h12
          refine zw_3 zr_14_75 rfl ?_
          refine zw_C zr_14_76 (Or.inr rfl) zm_10 rfl rfl ⟨Nat.le_of_ble_eq_true rfl, Nat.le_of_ble_eq_true rfl, Nat.le_of_ble_eq_true rfl, rfl, by decide⟩ (by omega) (P := (fun v m' => zW E (d) 14 79 [(2, 45), (0, f1), (0, i5), (0, p8)] (if v.1 = 9 then [] else v :: []) m' Q)) ?_ (fun _ _ h => h)
          generalize hQ1 : (fun v m' => zW E (d) 14 79 [(2, 45), (0, f1), (0, i5), (0, p8)] (if v.1 = 9 then [] else v :: []) m' Q) = Q1
          show zW E (d - 1) 10 0 [(0, i5)] [] m7 Q1
          refine zw_3 zr_10_0 rfl ?_
          refine zw_112 (off := 71) (t := 72) zr_10_1 (zlsw_df (by simp; omega)) rfl ?_
          refine zw_push zr_10_72 ?_
          refine zw_R zr_10_73 (by decide) zm_10 (v := (0, (-1))) rfl ?_
          rw [← hQ1]
          show zW E (d) 14 79 [(2, 45), (0, f1), (0, i5), (0, p8)] [(0, (-1))] m7 Q
          refine zw_push zr_14_79 ?_
          refine zw_41_1 zr_14_80 ?_ ?_
          · intro h13
            refine zw_3 zr_14_102 rfl ?_
            refine zw_push zr_14_103 ?_
            refine zw_41_4 zr_14_105 ?_ ?_
            · intro h14
              refine zw_7 zr_14_115 rfl ?_
              refine zw_push zr_14_116 ?_
              refine zw_C zr_14_117 (Or.inl rfl) zm_5 rfl rfl ⟨Nat.le_of_ble_eq_true rfl, Nat.le_of_ble_eq_true rfl, Nat.le_of_ble_eq_true rfl, rfl, by decide⟩ (by omega) (P := (fun v m' => zW E (d) 14 120 [(2, 45), (0, f1), (0, i5), (0, p8)] (if v.1 = 9 then [] else v :: []) m' Q)) ?_ (fun _ _ h => h)
              generalize hQ1 : (fun v m' => zW E (d) 14 120 [(2, 45), (0, f1), (0, i5), (0, p8)] (if v.1 = 9 then [] else v :: []) m' Q) = Q1
              show zW E (d - 1) 5 0 [(2, 45), (0, 1)] [] m7 Q1
              refine zw_7 zr_5_0 rfl ?_
              obtain ⟨f15, ef15⟩ : ∃ v, m7 45 1 = v := ⟨_, rfl⟩
              have bf15 := hIm7.fi (c := 45) (k := 1) rfl
              rw [ef15] at bf15
              refine zw_46i zr_5_1 ef15 rfl rfl rfl ?_
              refine zw_push zr_5_4 ?_
              refine zw_41_4 zr_5_5 ?_ ?_
              · intro h16
                refine zw_R zr_5_21 (by decide) zm_5 (v := (9, 0)) rfl ?_
                rw [← hQ1]
                show zW E (d) 14 120 [(2, 45), (0, f1), (0, i5), (0, p8)] [] m7 Q
                refine zw_7 zr_14_120 rfl ?_
                refine zw_3 zr_14_121 rfl ?_
                refine zw_3 zr_14_122 rfl ?_
                refine zw_C zr_14_123 (Or.inl rfl) zm_11 rfl rfl ⟨Nat.le_of_ble_eq_true rfl, Nat.le_of_ble_eq_true rfl, Nat.le_of_ble_eq_true rfl, rfl, by decide⟩ (by omega) (th_11 (d := d - 1) (by omega) hIm7 (a0 := f1) (a1 := p8)   (by omega) (by omega)) ?_
                rintro _ m17 ⟨rfl, hIm17, gm17⟩
                have hFm17 : zFr W_14 m0 m17 := hFm7.trans gm17 rfl
                have km17_45_6 : m17 45 6 = p8 := (gm17 45 6 rfl).trans km7_45_6
                have km17_45_1 : m17 45 1 = f15 := (gm17 45 1 rfl).trans ef15
                show zW E (d) 14 126 [(2, 45), (0, f1), (0, i5), (0, p8)] [] m17 Q
                refine zw_R zr_14_126 (by decide) zm_14 (v := (9, 0)) rfl ?_
                rw [← hQ]; exact ⟨rfl, hIm17, hFm17, by omega⟩
              · intro h18
                refine zw_7 zr_5_8 rfl ?_
                refine zw_7 zr_5_9 rfl ?_
                refine zw_46i zr_5_10 km7_45_6 rfl rfl rfl ?_
                refine zw_push zr_5_13 ?_
                refine zw_18 zr_5_15 (by omega) ?_
                refine zw_3 zr_5_16 rfl ?_
                refine zw_16 zr_5_17 (by omega) ?_
                refine zw_47 (c := 45) zr_5_18 rfl ⟨rfl, by decide, rfl⟩ ?_
                intro m19 em19
                have hIm19 : zInv m19 := by rw [em19]; exact hIm7.any (by omega) rfl (by decide) (by decide)
                have hFm19 : zFr W_14 m0 m19 := by rw [em19]; exact hFm7.up rfl
                have km19_45_6 : m19 45 6 = p8 := by rw [em19, zUp_ne (by omega)]; exact km7_45_6
                have km19_45_1 : m19 45 1 = ((p8 * 10) + 1) := by rw [em19]; exact zUp_eq _ _ _ _
                clear em19
                refine zw_R zr_5_21 (by decide) zm_5 (v := (9, 0)) rfl ?_
                rw [← hQ1]
                show zW E (d) 14 120 [(2, 45), (0, f1), (0, i5), (0, p8)] [] m19 Q
                refine zw_7 zr_14_120 rfl ?_
                refine zw_3 zr_14_121 rfl ?_
                refine zw_3 zr_14_122 rfl ?_
                refine zw_C zr_14_123 (Or.inl rfl) zm_11 rfl rfl ⟨Nat.le_of_ble_eq_true rfl, Nat.le_of_ble_eq_true rfl, Nat.le_of_ble_eq_true rfl, rfl, by decide⟩ (by omega) (th_11 (d := d - 1) (by omega) hIm19 (a0 := f1) (a1 := p8)   (by omega) (by omega)) ?_
                rintro _ m20 ⟨rfl, hIm20, gm20⟩
                have hFm20 : zFr W_14 m0 m20 := hFm19.trans gm20 rfl
                have km20_45_6 : m20 45 6 = p8 := (gm20 45 6 rfl).trans km19_45_6
                have km20_45_1 : m20 45 1 = ((p8 * 10) + 1) := (gm20 45 1 rfl).trans km19_45_1
                show zW E (d) 14 126 [(2, 45), (0, f1), (0, i5), (0, p8)] [] m20 Q
                refine zw_R zr_14_126 (by decide) zm_14 (v := (9, 0)) rfl ?_
                rw [← hQ]; exact ⟨rfl, hIm20, hFm20, by omega⟩
            · intro h21
              refine zw_7 zr_14_108 rfl ?_
              obtain ⟨f22, ef22⟩ : ∃ v, m7 45 7 = v := ⟨_, rfl⟩
              have bf22 := ib_45_7 hIm7
              rw [ef22] at bf22
              refine zw_C zr_14_109 (Or.inl rfl) zm_12 rfl rfl ⟨Nat.le_of_ble_eq_true rfl, Nat.le_of_ble_eq_true rfl, Nat.le_of_ble_eq_true rfl, rfl, by decide⟩ (by omega) (ih12 m7 (f22) (p8) (by omega) hIm7 ef22 km7_45_6 (by omega)) ?_
              rintro _ m23 ⟨rfl, hIm23, gm23, po0_m23⟩
              have hFm23 : zFr W_14 m0 m23 := hFm7.trans gm23 rfl
              show zW E (d) 14 112 [(2, 45), (0, f1), (0, i5), (0, p8)] [] m23 Q
              refine zw_42 zr_14_112 ?_
              refine zw_7 zr_14_120 rfl ?_
              refine zw_3 zr_14_121 rfl ?_
              refine zw_3 zr_14_122 rfl ?_
              refine zw_C zr_14_123 (Or.inl rfl) zm_11 rfl rfl ⟨Nat.le_of_ble_eq_true rfl, Nat.le_of_ble_eq_true rfl, Nat.le_of_ble_eq_true rfl, rfl, by decide⟩ (by omega) (th_11 (d := d - 1) (by omega) hIm23 (a0 := f1) (a1 := p8)   (by omega) (by omega)) ?_
              rintro _ m24 ⟨rfl, hIm24, gm24⟩
              have hFm24 : zFr W_14 m0 m24 := hFm23.trans gm24 rfl
              have km24_45_7 : m24 45 7 = f22 := (gm24 45 7 rfl).trans po0_m23
              show zW E (d) 14 126 [(2, 45), (0, f1), (0, i5), (0, p8)] [] m24 Q
              refine zw_R zr_14_126 (by decide) zm_14 (v := (9, 0)) rfl ?_
              rw [← hQ]; exact ⟨rfl, hIm24, hFm24, by omega⟩
          · intro h25; omega
        · intro h26
          refine zw_3 zr_14_62 rfl ?_
          refine zw_push zr_14_63 ?_
          refine zw_41_2 zr_14_65 ?_ ?_
          · intro h27
            refine zw_3 zr_14_75 rfl ?_
            refine zw_C zr_14_76 (Or.inr rfl) zm_10 rfl rfl ⟨Nat.le_of_ble_eq_true rfl, Nat.le_of_ble_eq_true rfl, Nat.le_of_ble_eq_true rfl, rfl, by decide⟩ (by omega) (P := (fun v m' => zW E (d) 14 79 [(2, 45), (0, f1), (0, i5), (0, p8)] (if v.1 = 9 then [] else v :: []) m' Q)) ?_ (fun _ _ h => h)
            generalize hQ1 : (fun v m' => zW E (d) 14 79 [(2, 45), (0, f1), (0, i5), (0, p8)] (if v.1 = 9 then [] else v :: []) m' Q) = Q1
            show zW E (d - 1) 10 0 [(0, i5)] [] m7 Q1
            refine zw_3 zr_10_0 rfl ?_
            by_cases h28 : i5 = 101
            · refine zw_112 (off := 63) (t := 64) zr_10_1 (by rw [h28]; rfl) rfl ?_
              refine zw_push zr_10_64 ?_
              refine zw_R zr_10_65 (by decide) zm_10 (v := (0, 2)) rfl ?_
              rw [← hQ1]
              show zW E (d) 14 79 [(2, 45), (0, f1), (0, i5), (0, p8)] [(0, 2)] m7 Q
              refine zw_push zr_14_79 ?_
              refine zw_41_1 zr_14_80 ?_ ?_
              · intro h29; omega
              · intro h30
                refine zw_7 zr_14_83 rfl ?_
                refine zw_43 zr_14_84 rfl ?_
                refine zw_46i zr_14_85 km7_45_6 rfl rfl rfl ?_
                refine zw_push zr_14_88 ?_
                refine zw_16 zr_14_89 (by omega) ?_
                refine zw_47 (c := 45) zr_14_90 rfl ⟨rfl, by decide, rfl⟩ ?_
                intro m31 em31
                have hIm31 : zInv m31 := by rw [em31]; exact hIm7.bd (r := 45) (k := 6) (lo := 0) (hi := 50) rfl (by omega) (by decide) (by decide) (by decide)
                have hFm31 : zFr W_14 m0 m31 := by rw [em31]; exact hFm7.up rfl
                have km31_45_6 : m31 45 6 = (p8 + 1) := by rw [em31]; exact zUp_eq _ _ _ _
                clear em31
                refine zw_7 zr_14_93 rfl ?_
                refine zw_3 zr_14_94 rfl ?_
                refine zw_38 zr_14_95 (by omega) ?_
                refine zw_C zr_14_96 (Or.inl rfl) zm_8 rfl rfl ⟨Nat.le_of_ble_eq_true rfl, Nat.le_of_ble_eq_true rfl, Nat.le_of_ble_eq_true rfl, rfl, by decide⟩ (by omega) (P := (fun v m' => zW E (d) 14 99 [(2, 45), (0, f1), (0, i5), (0, p8)] (if v.1 = 9 then [] else v :: []) m' Q)) ?_ (fun _ _ h => h)
                generalize hQ1 : (fun v m' => zW E (d) 14 99 [(2, 45), (0, f1), (0, i5), (0, p8)] (if v.1 = 9 then [] else v :: []) m' Q) = Q1
                show zW E (d - 1) 8 0 [(2, 45), (0, (-i5))] [] m31 Q1
                refine zw_7 zr_8_0 rfl ?_
                obtain ⟨f32, ef32⟩ : ∃ v, m31 45 8 = v := ⟨_, rfl⟩
                have bf32 := ib_45_8 hIm31
                rw [ef32] at bf32
                refine zw_46i zr_8_1 ef32 rfl rfl rfl ?_
                refine zw_push zr_8_4 ?_
                refine zw_41_3 zr_8_6 ?_ ?_
                · intro h33
                  refine zw_R zr_8_29 (by decide) zm_8 (v := (9, 0)) rfl ?_
                  rw [← hQ1]
                  show zW E (d) 14 99 [(2, 45), (0, f1), (0, i5), (0, p8)] [] m31 Q
                  refine zw_42 zr_14_99 ?_
                  refine zw_7 zr_14_120 rfl ?_
                  refine zw_3 zr_14_121 rfl ?_
                  refine zw_3 zr_14_122 rfl ?_
                  refine zw_C zr_14_123 (Or.inl rfl) zm_11 rfl rfl ⟨Nat.le_of_ble_eq_true rfl, Nat.le_of_ble_eq_true rfl, Nat.le_of_ble_eq_true rfl, rfl, by decide⟩ (by omega) (th_11 (d := d - 1) (by omega) hIm31 (a0 := f1) (a1 := p8)   (by omega) (by omega)) ?_
                  rintro _ m34 ⟨rfl, hIm34, gm34⟩
                  have hFm34 : zFr W_14 m0 m34 := hFm31.trans gm34 rfl
                  have km34_45_6 : m34 45 6 = (p8 + 1) := (gm34 45 6 rfl).trans km31_45_6
                  show zW E (d) 14 126 [(2, 45), (0, f1), (0, i5), (0, p8)] [] m34 Q
                  refine zw_R zr_14_126 (by decide) zm_14 (v := (9, 0)) rfl ?_
                  rw [← hQ]; exact ⟨rfl, hIm34, hFm34, by omega⟩
                · intro h35
                  refine zw_7 zr_8_9 rfl ?_
                  refine zw_46r (s := 48) zr_8_10 rfl rfl rfl rfl ?_
                  refine zw_7 zr_8_13 rfl ?_
                  refine zw_46i zr_8_14 ef32 rfl rfl rfl ?_
                  refine zw_3 zr_8_17 rfl ?_
                  refine zw_49 (c := 48) (len := 50) zr_8_18 rfl rfl (by omega) (by omega) ?_
                  intro m36 em36
                  have hIm36 : zInv m36 := by rw [em36]; exact hIm31.any (by omega) rfl (by decide) (by decide)
                  have hFm36 : zFr W_14 m0 m36 := by rw [em36]; exact hFm31.any rfl
                  have km36_45_6 : m36 45 6 = (p8 + 1) := by rw [em36, zUp_ne (by omega)]; exact km31_45_6
                  have km36_45_8 : m36 45 8 = f32 := by rw [em36, zUp_ne (by omega)]; exact ef32
                  clear em36
                  refine zw_7 zr_8_19 rfl ?_
                  refine zw_43 zr_8_20 rfl ?_
                  refine zw_46i zr_8_21 km36_45_8 rfl rfl rfl ?_
                  refine zw_push zr_8_24 ?_
                  refine zw_16 zr_8_25 (by omega) ?_
                  refine zw_47 (c := 45) zr_8_26 rfl ⟨rfl, by decide, rfl⟩ ?_
                  intro m37 em37
                  have hIm37 : zInv m37 := by rw [em37]; exact hIm36.bd (r := 45) (k := 8) (lo := 0) (hi := 50) rfl (by omega) (by decide) (by decide) (by decide)
                  have hFm37 : zFr W_14 m0 m37 := by rw [em37]; exact hFm36.up rfl
                  have km37_45_6 : m37 45 6 = (p8 + 1) := by rw [em37, zUp_ne (by omega)]; exact km36_45_6
                  have km37_45_8 : m37 45 8 = (f32 + 1) := by rw [em37]; exact zUp_eq _ _ _ _
                  clear em37
                  refine zw_R zr_8_29 (by decide) zm_8 (v := (9, 0)) rfl ?_
                  rw [← hQ1]
                  show zW E (d) 14 99 [(2, 45), (0, f1), (0, i5), (0, p8)] [] m37 Q
                  refine zw_42 zr_14_99 ?_
                  refine zw_7 zr_14_120 rfl ?_
                  refine zw_3 zr_14_121 rfl ?_
                  refine zw_3 zr_14_122 rfl ?_
                  refine zw_C zr_14_123 (Or.inl rfl) zm_11 rfl rfl ⟨Nat.le_of_ble_eq_true rfl, Nat.le_of_ble_eq_true rfl, Nat.le_of_ble_eq_true rfl, rfl, by decide⟩ (by omega) (th_11 (d := d - 1) (by omega) hIm37 (a0 := f1) (a1 := p8)   (by omega) (by omega)) ?_
                  rintro _ m38 ⟨rfl, hIm38, gm38⟩
                  have hFm38 : zFr W_14 m0 m38 := hFm37.trans gm38 rfl
                  have km38_45_6 : m38 45 6 = (p8 + 1) := (gm38 45 6 rfl).trans km37_45_6
                  show zW E (d) 14 126 [(2, 45), (0, f1), (0, i5), (0, p8)] [] m38 Q
                  refine zw_R zr_14_126 (by decide) zm_14 (v := (9, 0)) rfl ?_
                  rw [← hQ]; exact ⟨rfl, hIm38, hFm38, by omega⟩
            by_cases h39 : i5 = 103
            · refine zw_112 (off := 69) (t := 70) zr_10_1 (by rw [h39]; rfl) rfl ?_
              refine zw_push zr_10_70 ?_
              refine zw_R zr_10_71 (by decide) zm_10 (v := (0, 5)) rfl ?_
              rw [← hQ1]
              show zW E (d) 14 79 [(2, 45), (0, f1), (0, i5), (0, p8)] [(0, 5)] m7 Q
              refine zw_push zr_14_79 ?_
              refine zw_41_1 zr_14_80 ?_ ?_
              · intro h40; omega
              · intro h41
                refine zw_7 zr_14_83 rfl ?_
                refine zw_43 zr_14_84 rfl ?_
                refine zw_46i zr_14_85 km7_45_6 rfl rfl rfl ?_
                refine zw_push zr_14_88 ?_
                refine zw_16 zr_14_89 (by omega) ?_
                refine zw_47 (c := 45) zr_14_90 rfl ⟨rfl, by decide, rfl⟩ ?_
                intro m42 em42
                have hIm42 : zInv m42 := by rw [em42]; exact hIm7.bd (r := 45) (k := 6) (lo := 0) (hi := 50) rfl (by omega) (by decide) (by decide) (by decide)
                have hFm42 : zFr W_14 m0 m42 := by rw [em42]; exact hFm7.up rfl
                have km42_45_6 : m42 45 6 = (p8 + 1) := by rw [em42]; exact zUp_eq _ _ _ _
                clear em42
                refine zw_7 zr_14_93 rfl ?_
                refine zw_3 zr_14_94 rfl ?_
                refine zw_38 zr_14_95 (by omega) ?_
                refine zw_C zr_14_96 (Or.inl rfl) zm_8 rfl rfl ⟨Nat.le_of_ble_eq_true rfl, Nat.le_of_ble_eq_true rfl, Nat.le_of_ble_eq_true rfl, rfl, by decide⟩ (by omega) (P := (fun v m' => zW E (d) 14 99 [(2, 45), (0, f1), (0, i5), (0, p8)] (if v.1 = 9 then [] else v :: []) m' Q)) ?_ (fun _ _ h => h)
                generalize hQ1 : (fun v m' => zW E (d) 14 99 [(2, 45), (0, f1), (0, i5), (0, p8)] (if v.1 = 9 then [] else v :: []) m' Q) = Q1
                show zW E (d - 1) 8 0 [(2, 45), (0, (-i5))] [] m42 Q1
                refine zw_7 zr_8_0 rfl ?_
                obtain ⟨f43, ef43⟩ : ∃ v, m42 45 8 = v := ⟨_, rfl⟩
                have bf43 := ib_45_8 hIm42
                rw [ef43] at bf43
                refine zw_46i zr_8_1 ef43 rfl rfl rfl ?_
                refine zw_push zr_8_4 ?_
                refine zw_41_3 zr_8_6 ?_ ?_
                · intro h44
                  refine zw_R zr_8_29 (by decide) zm_8 (v := (9, 0)) rfl ?_
                  rw [← hQ1]
                  show zW E (d) 14 99 [(2, 45), (0, f1), (0, i5), (0, p8)] [] m42 Q
                  refine zw_42 zr_14_99 ?_
                  refine zw_7 zr_14_120 rfl ?_
                  refine zw_3 zr_14_121 rfl ?_
                  refine zw_3 zr_14_122 rfl ?_
                  refine zw_C zr_14_123 (Or.inl rfl) zm_11 rfl rfl ⟨Nat.le_of_ble_eq_true rfl, Nat.le_of_ble_eq_true rfl, Nat.le_of_ble_eq_true rfl, rfl, by decide⟩ (by omega) (th_11 (d := d - 1) (by omega) hIm42 (a0 := f1) (a1 := p8)   (by omega) (by omega)) ?_
                  rintro _ m45 ⟨rfl, hIm45, gm45⟩
                  have hFm45 : zFr W_14 m0 m45 := hFm42.trans gm45 rfl
                  have km45_45_6 : m45 45 6 = (p8 + 1) := (gm45 45 6 rfl).trans km42_45_6
                  show zW E (d) 14 126 [(2, 45), (0, f1), (0, i5), (0, p8)] [] m45 Q
                  refine zw_R zr_14_126 (by decide) zm_14 (v := (9, 0)) rfl ?_
                  rw [← hQ]; exact ⟨rfl, hIm45, hFm45, by omega⟩
                · intro h46
                  refine zw_7 zr_8_9 rfl ?_
                  refine zw_46r (s := 48) zr_8_10 rfl rfl rfl rfl ?_
                  refine zw_7 zr_8_13 rfl ?_
                  refine zw_46i zr_8_14 ef43 rfl rfl rfl ?_
                  refine zw_3 zr_8_17 rfl ?_
                  refine zw_49 (c := 48) (len := 50) zr_8_18 rfl rfl (by omega) (by omega) ?_
                  intro m47 em47
                  have hIm47 : zInv m47 := by rw [em47]; exact hIm42.any (by omega) rfl (by decide) (by decide)
                  have hFm47 : zFr W_14 m0 m47 := by rw [em47]; exact hFm42.any rfl
                  have km47_45_6 : m47 45 6 = (p8 + 1) := by rw [em47, zUp_ne (by omega)]; exact km42_45_6
                  have km47_45_8 : m47 45 8 = f43 := by rw [em47, zUp_ne (by omega)]; exact ef43
                  clear em47
                  refine zw_7 zr_8_19 rfl ?_
                  refine zw_43 zr_8_20 rfl ?_
                  refine zw_46i zr_8_21 km47_45_8 rfl rfl rfl ?_
                  refine zw_push zr_8_24 ?_
                  refine zw_16 zr_8_25 (by omega) ?_
                  refine zw_47 (c := 45) zr_8_26 rfl ⟨rfl, by decide, rfl⟩ ?_
                  intro m48 em48
                  have hIm48 : zInv m48 := by rw [em48]; exact hIm47.bd (r := 45) (k := 8) (lo := 0) (hi := 50) rfl (by omega) (by decide) (by decide) (by decide)
                  have hFm48 : zFr W_14 m0 m48 := by rw [em48]; exact hFm47.up rfl
                  have km48_45_6 : m48 45 6 = (p8 + 1) := by rw [em48, zUp_ne (by omega)]; exact km47_45_6
                  have km48_45_8 : m48 45 8 = (f43 + 1) := by rw [em48]; exact zUp_eq _ _ _ _
                  clear em48
                  refine zw_R zr_8_29 (by decide) zm_8 (v := (9, 0)) rfl ?_
                  rw [← hQ1]
                  show zW E (d) 14 99 [(2, 45), (0, f1), (0, i5), (0, p8)] [] m48 Q
                  refine zw_42 zr_14_99 ?_
                  refine zw_7 zr_14_120 rfl ?_
                  refine zw_3 zr_14_121 rfl ?_
                  refine zw_3 zr_14_122 rfl ?_
                  refine zw_C zr_14_123 (Or.inl rfl) zm_11 rfl rfl ⟨Nat.le_of_ble_eq_true rfl, Nat.le_of_ble_eq_true rfl, Nat.le_of_ble_eq_true rfl, rfl, by decide⟩ (by omega) (th_11 (d := d - 1) (by omega) hIm48 (a0 := f1) (a1 := p8)   (by omega) (by omega)) ?_
                  rintro _ m49 ⟨rfl, hIm49, gm49⟩
                  have hFm49 : zFr W_14 m0 m49 := hFm48.trans gm49 rfl
                  have km49_45_6 : m49 45 6 = (p8 + 1) := (gm49 45 6 rfl).trans km48_45_6
                  show zW E (d) 14 126 [(2, 45), (0, f1), (0, i5), (0, p8)] [] m49 Q
                  refine zw_R zr_14_126 (by decide) zm_14 (v := (9, 0)) rfl ?_
                  rw [← hQ]; exact ⟨rfl, hIm49, hFm49, by omega⟩
            by_cases h50 : i5 = 109
            · refine zw_112 (off := 65) (t := 66) zr_10_1 (by rw [h50]; rfl) rfl ?_
              refine zw_push zr_10_66 ?_
              refine zw_R zr_10_67 (by decide) zm_10 (v := (0, 3)) rfl ?_
              rw [← hQ1]
              show zW E (d) 14 79 [(2, 45), (0, f1), (0, i5), (0, p8)] [(0, 3)] m7 Q
              refine zw_push zr_14_79 ?_
              refine zw_41_1 zr_14_80 ?_ ?_
              · intro h51; omega
              · intro h52
                refine zw_7 zr_14_83 rfl ?_
                refine zw_43 zr_14_84 rfl ?_
                refine zw_46i zr_14_85 km7_45_6 rfl rfl rfl ?_
                refine zw_push zr_14_88 ?_
                refine zw_16 zr_14_89 (by omega) ?_
                refine zw_47 (c := 45) zr_14_90 rfl ⟨rfl, by decide, rfl⟩ ?_
                intro m53 em53
                have hIm53 : zInv m53 := by rw [em53]; exact hIm7.bd (r := 45) (k := 6) (lo := 0) (hi := 50) rfl (by omega) (by decide) (by decide) (by decide)
                have hFm53 : zFr W_14 m0 m53 := by rw [em53]; exact hFm7.up rfl
                have km53_45_6 : m53 45 6 = (p8 + 1) := by rw [em53]; exact zUp_eq _ _ _ _
                clear em53
                refine zw_7 zr_14_93 rfl ?_
                refine zw_3 zr_14_94 rfl ?_
                refine zw_38 zr_14_95 (by omega) ?_
                refine zw_C zr_14_96 (Or.inl rfl) zm_8 rfl rfl ⟨Nat.le_of_ble_eq_true rfl, Nat.le_of_ble_eq_true rfl, Nat.le_of_ble_eq_true rfl, rfl, by decide⟩ (by omega) (P := (fun v m' => zW E (d) 14 99 [(2, 45), (0, f1), (0, i5), (0, p8)] (if v.1 = 9 then [] else v :: []) m' Q)) ?_ (fun _ _ h => h)
                generalize hQ1 : (fun v m' => zW E (d) 14 99 [(2, 45), (0, f1), (0, i5), (0, p8)] (if v.1 = 9 then [] else v :: []) m' Q) = Q1
                show zW E (d - 1) 8 0 [(2, 45), (0, (-i5))] [] m53 Q1
                refine zw_7 zr_8_0 rfl ?_
                obtain ⟨f54, ef54⟩ : ∃ v, m53 45 8 = v := ⟨_, rfl⟩
                have bf54 := ib_45_8 hIm53
                rw [ef54] at bf54
                refine zw_46i zr_8_1 ef54 rfl rfl rfl ?_
                refine zw_push zr_8_4 ?_
                refine zw_41_3 zr_8_6 ?_ ?_
                · intro h55
                  refine zw_R zr_8_29 (by decide) zm_8 (v := (9, 0)) rfl ?_
                  rw [← hQ1]
                  show zW E (d) 14 99 [(2, 45), (0, f1), (0, i5), (0, p8)] [] m53 Q
                  refine zw_42 zr_14_99 ?_
                  refine zw_7 zr_14_120 rfl ?_
                  refine zw_3 zr_14_121 rfl ?_
                  refine zw_3 zr_14_122 rfl ?_
                  refine zw_C zr_14_123 (Or.inl rfl) zm_11 rfl rfl ⟨Nat.le_of_ble_eq_true rfl, Nat.le_of_ble_eq_true rfl, Nat.le_of_ble_eq_true rfl, rfl, by decide⟩ (by omega) (th_11 (d := d - 1) (by omega) hIm53 (a0 := f1) (a1 := p8)   (by omega) (by omega)) ?_
                  rintro _ m56 ⟨rfl, hIm56, gm56⟩
                  have hFm56 : zFr W_14 m0 m56 := hFm53.trans gm56 rfl
                  have km56_45_6 : m56 45 6 = (p8 + 1) := (gm56 45 6 rfl).trans km53_45_6
                  show zW E (d) 14 126 [(2, 45), (0, f1), (0, i5), (0, p8)] [] m56 Q
                  refine zw_R zr_14_126 (by decide) zm_14 (v := (9, 0)) rfl ?_
                  rw [← hQ]; exact ⟨rfl, hIm56, hFm56, by omega⟩
                · intro h57
                  refine zw_7 zr_8_9 rfl ?_
                  refine zw_46r (s := 48) zr_8_10 rfl rfl rfl rfl ?_
                  refine zw_7 zr_8_13 rfl ?_
                  refine zw_46i zr_8_14 ef54 rfl rfl rfl ?_
                  refine zw_3 zr_8_17 rfl ?_
                  refine zw_49 (c := 48) (len := 50) zr_8_18 rfl rfl (by omega) (by omega) ?_
                  intro m58 em58
                  have hIm58 : zInv m58 := by rw [em58]; exact hIm53.any (by omega) rfl (by decide) (by decide)
                  have hFm58 : zFr W_14 m0 m58 := by rw [em58]; exact hFm53.any rfl
                  have km58_45_6 : m58 45 6 = (p8 + 1) := by rw [em58, zUp_ne (by omega)]; exact km53_45_6
                  have km58_45_8 : m58 45 8 = f54 := by rw [em58, zUp_ne (by omega)]; exact ef54
                  clear em58
                  refine zw_7 zr_8_19 rfl ?_
                  refine zw_43 zr_8_20 rfl ?_
                  refine zw_46i zr_8_21 km58_45_8 rfl rfl rfl ?_
                  refine zw_push zr_8_24 ?_
                  refine zw_16 zr_8_25 (by omega) ?_
                  refine zw_47 (c := 45) zr_8_26 rfl ⟨rfl, by decide, rfl⟩ ?_
                  intro m59 em59
                  have hIm59 : zInv m59 := by rw [em59]; exact hIm58.bd (r := 45) (k := 8) (lo := 0) (hi := 50) rfl (by omega) (by decide) (by decide) (by decide)
                  have hFm59 : zFr W_14 m0 m59 := by rw [em59]; exact hFm58.up rfl
                  have km59_45_6 : m59 45 6 = (p8 + 1) := by rw [em59, zUp_ne (by omega)]; exact km58_45_6
                  have km59_45_8 : m59 45 8 = (f54 + 1) := by rw [em59]; exact zUp_eq _ _ _ _
                  clear em59
                  refine zw_R zr_8_29 (by decide) zm_8 (v := (9, 0)) rfl ?_
                  rw [← hQ1]
                  show zW E (d) 14 99 [(2, 45), (0, f1), (0, i5), (0, p8)] [] m59 Q
                  refine zw_42 zr_14_99 ?_
                  refine zw_7 zr_14_120 rfl ?_
                  refine zw_3 zr_14_121 rfl ?_
                  refine zw_3 zr_14_122 rfl ?_
                  refine zw_C zr_14_123 (Or.inl rfl) zm_11 rfl rfl ⟨Nat.le_of_ble_eq_true rfl, Nat.le_of_ble_eq_true rfl, Nat.le_of_ble_eq_true rfl, rfl, by decide⟩ (by omega) (th_11 (d := d - 1) (by omega) hIm59 (a0 := f1) (a1 := p8)   (by omega) (by omega)) ?_
                  rintro _ m60 ⟨rfl, hIm60, gm60⟩
                  have hFm60 : zFr W_14 m0 m60 := hFm59.trans gm60 rfl
                  have km60_45_6 : m60 45 6 = (p8 + 1) := (gm60 45 6 rfl).trans km59_45_6
                  show zW E (d) 14 126 [(2, 45), (0, f1), (0, i5), (0, p8)] [] m60 Q
                  refine zw_R zr_14_126 (by decide) zm_14 (v := (9, 0)) rfl ?_
                  rw [← hQ]; exact ⟨rfl, hIm60, hFm60, by omega⟩
            by_cases h61 : i5 = 111
            · refine zw_112 (off := 61) (t := 62) zr_10_1 (by rw [h61]; rfl) rfl ?_
              refine zw_push zr_10_62 ?_
              refine zw_R zr_10_63 (by decide) zm_10 (v := (0, 1)) rfl ?_
              rw [← hQ1]
              show zW E (d) 14 79 [(2, 45), (0, f1), (0, i5), (0, p8)] [(0, 1)] m7 Q
              refine zw_push zr_14_79 ?_
              refine zw_41_1 zr_14_80 ?_ ?_
              · intro h62; omega
              · intro h63
                refine zw_7 zr_14_83 rfl ?_
                refine zw_43 zr_14_84 rfl ?_
                refine zw_46i zr_14_85 km7_45_6 rfl rfl rfl ?_
                refine zw_push zr_14_88 ?_
                refine zw_16 zr_14_89 (by omega) ?_
                refine zw_47 (c := 45) zr_14_90 rfl ⟨rfl, by decide, rfl⟩ ?_
                intro m64 em64
                have hIm64 : zInv m64 := by rw [em64]; exact hIm7.bd (r := 45) (k := 6) (lo := 0) (hi := 50) rfl (by omega) (by decide) (by decide) (by decide)
                have hFm64 : zFr W_14 m0 m64 := by rw [em64]; exact hFm7.up rfl
                have km64_45_6 : m64 45 6 = (p8 + 1) := by rw [em64]; exact zUp_eq _ _ _ _
                clear em64
                refine zw_7 zr_14_93 rfl ?_
                refine zw_3 zr_14_94 rfl ?_
                refine zw_38 zr_14_95 (by omega) ?_
                refine zw_C zr_14_96 (Or.inl rfl) zm_8 rfl rfl ⟨Nat.le_of_ble_eq_true rfl, Nat.le_of_ble_eq_true rfl, Nat.le_of_ble_eq_true rfl, rfl, by decide⟩ (by omega) (P := (fun v m' => zW E (d) 14 99 [(2, 45), (0, f1), (0, i5), (0, p8)] (if v.1 = 9 then [] else v :: []) m' Q)) ?_ (fun _ _ h => h)
                generalize hQ1 : (fun v m' => zW E (d) 14 99 [(2, 45), (0, f1), (0, i5), (0, p8)] (if v.1 = 9 then [] else v :: []) m' Q) = Q1
                show zW E (d - 1) 8 0 [(2, 45), (0, (-i5))] [] m64 Q1
                refine zw_7 zr_8_0 rfl ?_
                obtain ⟨f65, ef65⟩ : ∃ v, m64 45 8 = v := ⟨_, rfl⟩
                have bf65 := ib_45_8 hIm64
                rw [ef65] at bf65
                refine zw_46i zr_8_1 ef65 rfl rfl rfl ?_
                refine zw_push zr_8_4 ?_
                refine zw_41_3 zr_8_6 ?_ ?_
                · intro h66
                  refine zw_R zr_8_29 (by decide) zm_8 (v := (9, 0)) rfl ?_
                  rw [← hQ1]
                  show zW E (d) 14 99 [(2, 45), (0, f1), (0, i5), (0, p8)] [] m64 Q
                  refine zw_42 zr_14_99 ?_
                  refine zw_7 zr_14_120 rfl ?_
                  refine zw_3 zr_14_121 rfl ?_
                  refine zw_3 zr_14_122 rfl ?_
                  refine zw_C zr_14_123 (Or.inl rfl) zm_11 rfl rfl ⟨Nat.le_of_ble_eq_true rfl, Nat.le_of_ble_eq_true rfl, Nat.le_of_ble_eq_true rfl, rfl, by decide⟩ (by omega) (th_11 (d := d - 1) (by omega) hIm64 (a0 := f1) (a1 := p8)   (by omega) (by omega)) ?_
                  rintro _ m67 ⟨rfl, hIm67, gm67⟩
                  have hFm67 : zFr W_14 m0 m67 := hFm64.trans gm67 rfl
                  have km67_45_6 : m67 45 6 = (p8 + 1) := (gm67 45 6 rfl).trans km64_45_6
                  show zW E (d) 14 126 [(2, 45), (0, f1), (0, i5), (0, p8)] [] m67 Q
                  refine zw_R zr_14_126 (by decide) zm_14 (v := (9, 0)) rfl ?_
                  rw [← hQ]; exact ⟨rfl, hIm67, hFm67, by omega⟩
                · intro h68
                  refine zw_7 zr_8_9 rfl ?_
                  refine zw_46r (s := 48) zr_8_10 rfl rfl rfl rfl ?_
                  refine zw_7 zr_8_13 rfl ?_
                  refine zw_46i zr_8_14 ef65 rfl rfl rfl ?_
                  refine zw_3 zr_8_17 rfl ?_
                  refine zw_49 (c := 48) (len := 50) zr_8_18 rfl rfl (by omega) (by omega) ?_
                  intro m69 em69
                  have hIm69 : zInv m69 := by rw [em69]; exact hIm64.any (by omega) rfl (by decide) (by decide)
                  have hFm69 : zFr W_14 m0 m69 := by rw [em69]; exact hFm64.any rfl
                  have km69_45_6 : m69 45 6 = (p8 + 1) := by rw [em69, zUp_ne (by omega)]; exact km64_45_6
                  have km69_45_8 : m69 45 8 = f65 := by rw [em69, zUp_ne (by omega)]; exact ef65
                  clear em69
                  refine zw_7 zr_8_19 rfl ?_
                  refine zw_43 zr_8_20 rfl ?_
                  refine zw_46i zr_8_21 km69_45_8 rfl rfl rfl ?_
                  refine zw_push zr_8_24 ?_
                  refine zw_16 zr_8_25 (by omega) ?_
                  refine zw_47 (c := 45) zr_8_26 rfl ⟨rfl, by decide, rfl⟩ ?_
                  intro m70 em70
                  have hIm70 : zInv m70 := by rw [em70]; exact hIm69.bd (r := 45) (k := 8) (lo := 0) (hi := 50) rfl (by omega) (by decide) (by decide) (by decide)
                  have hFm70 : zFr W_14 m0 m70 := by rw [em70]; exact hFm69.up rfl
                  have km70_45_6 : m70 45 6 = (p8 + 1) := by rw [em70, zUp_ne (by omega)]; exact km69_45_6
                  have km70_45_8 : m70 45 8 = (f65 + 1) := by rw [em70]; exact zUp_eq _ _ _ _
                  clear em70
                  refine zw_R zr_8_29 (by decide) zm_8 (v := (9, 0)) rfl ?_
                  rw [← hQ1]
                  show zW E (d) 14 99 [(2, 45), (0, f1), (0, i5), (0, p8)] [] m70 Q
                  refine zw_42 zr_14_99 ?_
                  refine zw_7 zr_14_120 rfl ?_
                  refine zw_3 zr_14_121 rfl ?_
                  refine zw_3 zr_14_122 rfl ?_
                  refine zw_C zr_14_123 (Or.inl rfl) zm_11 rfl rfl ⟨Nat.le_of_ble_eq_true rfl, Nat.le_of_ble_eq_true rfl, Nat.le_of_ble_eq_true rfl, rfl, by decide⟩ (by omega) (th_11 (d := d - 1) (by omega) hIm70 (a0 := f1) (a1 := p8)   (by omega) (by omega)) ?_
                  rintro _ m71 ⟨rfl, hIm71, gm71⟩
                  have hFm71 : zFr W_14 m0 m71 := hFm70.trans gm71 rfl
                  have km71_45_6 : m71 45 6 = (p8 + 1) := (gm71 45 6 rfl).trans km70_45_6
                  show zW E (d) 14 126 [(2, 45), (0, f1), (0, i5), (0, p8)] [] m71 Q
                  refine zw_R zr_14_126 (by decide) zm_14 (v := (9, 0)) rfl ?_
                  rw [← hQ]; exact ⟨rfl, hIm71, hFm71, by omega⟩
            by_cases h72 : i5 = 120
            · refine zw_112 (off := 59) (t := 60) zr_10_1 (by rw [h72]; rfl) rfl ?_
              refine zw_push zr_10_60 ?_
              refine zw_R zr_10_61 (by decide) zm_10 (v := (0, 0)) rfl ?_
              rw [← hQ1]
              show zW E (d) 14 79 [(2, 45), (0, f1), (0, i5), (0, p8)] [(0, 0)] m7 Q
              refine zw_push zr_14_79 ?_
              refine zw_41_1 zr_14_80 ?_ ?_
              · intro h73; omega
              · intro h74
                refine zw_7 zr_14_83 rfl ?_
                refine zw_43 zr_14_84 rfl ?_
                refine zw_46i zr_14_85 km7_45_6 rfl rfl rfl ?_
                refine zw_push zr_14_88 ?_
                refine zw_16 zr_14_89 (by omega) ?_
                refine zw_47 (c := 45) zr_14_90 rfl ⟨rfl, by decide, rfl⟩ ?_
                intro m75 em75
                have hIm75 : zInv m75 := by rw [em75]; exact hIm7.bd (r := 45) (k := 6) (lo := 0) (hi := 50) rfl (by omega) (by decide) (by decide) (by decide)
                have hFm75 : zFr W_14 m0 m75 := by rw [em75]; exact hFm7.up rfl
                have km75_45_6 : m75 45 6 = (p8 + 1) := by rw [em75]; exact zUp_eq _ _ _ _
                clear em75
                refine zw_7 zr_14_93 rfl ?_
                refine zw_3 zr_14_94 rfl ?_
                refine zw_38 zr_14_95 (by omega) ?_
                refine zw_C zr_14_96 (Or.inl rfl) zm_8 rfl rfl ⟨Nat.le_of_ble_eq_true rfl, Nat.le_of_ble_eq_true rfl, Nat.le_of_ble_eq_true rfl, rfl, by decide⟩ (by omega) (P := (fun v m' => zW E (d) 14 99 [(2, 45), (0, f1), (0, i5), (0, p8)] (if v.1 = 9 then [] else v :: []) m' Q)) ?_ (fun _ _ h => h)
                generalize hQ1 : (fun v m' => zW E (d) 14 99 [(2, 45), (0, f1), (0, i5), (0, p8)] (if v.1 = 9 then [] else v :: []) m' Q) = Q1
                show zW E (d - 1) 8 0 [(2, 45), (0, (-i5))] [] m75 Q1
                refine zw_7 zr_8_0 rfl ?_
                obtain ⟨f76, ef76⟩ : ∃ v, m75 45 8 = v := ⟨_, rfl⟩
                have bf76 := ib_45_8 hIm75
                rw [ef76] at bf76
                refine zw_46i zr_8_1 ef76 rfl rfl rfl ?_
                refine zw_push zr_8_4 ?_
                refine zw_41_3 zr_8_6 ?_ ?_
                · intro h77
                  refine zw_R zr_8_29 (by decide) zm_8 (v := (9, 0)) rfl ?_
                  rw [← hQ1]
                  show zW E (d) 14 99 [(2, 45), (0, f1), (0, i5), (0, p8)] [] m75 Q
                  refine zw_42 zr_14_99 ?_
                  refine zw_7 zr_14_120 rfl ?_
                  refine zw_3 zr_14_121 rfl ?_
                  refine zw_3 zr_14_122 rfl ?_
                  refine zw_C zr_14_123 (Or.inl rfl) zm_11 rfl rfl ⟨Nat.le_of_ble_eq_true rfl, Nat.le_of_ble_eq_true rfl, Nat.le_of_ble_eq_true rfl, rfl, by decide⟩ (by omega) (th_11 (d := d - 1) (by omega) hIm75 (a0 := f1) (a1 := p8)   (by omega) (by omega)) ?_
                  rintro _ m78 ⟨rfl, hIm78, gm78⟩
                  have hFm78 : zFr W_14 m0 m78 := hFm75.trans gm78 rfl
                  have km78_45_6 : m78 45 6 = (p8 + 1) := (gm78 45 6 rfl).trans km75_45_6
                  show zW E (d) 14 126 [(2, 45), (0, f1), (0, i5), (0, p8)] [] m78 Q
                  refine zw_R zr_14_126 (by decide) zm_14 (v := (9, 0)) rfl ?_
                  rw [← hQ]; exact ⟨rfl, hIm78, hFm78, by omega⟩
                · intro h79
                  refine zw_7 zr_8_9 rfl ?_
                  refine zw_46r (s := 48) zr_8_10 rfl rfl rfl rfl ?_
                  refine zw_7 zr_8_13 rfl ?_
                  refine zw_46i zr_8_14 ef76 rfl rfl rfl ?_
                  refine zw_3 zr_8_17 rfl ?_
                  refine zw_49 (c := 48) (len := 50) zr_8_18 rfl rfl (by omega) (by omega) ?_
                  intro m80 em80
                  have hIm80 : zInv m80 := by rw [em80]; exact hIm75.any (by omega) rfl (by decide) (by decide)
                  have hFm80 : zFr W_14 m0 m80 := by rw [em80]; exact hFm75.any rfl
                  have km80_45_6 : m80 45 6 = (p8 + 1) := by rw [em80, zUp_ne (by omega)]; exact km75_45_6
                  have km80_45_8 : m80 45 8 = f76 := by rw [em80, zUp_ne (by omega)]; exact ef76
                  clear em80
                  refine zw_7 zr_8_19 rfl ?_
                  refine zw_43 zr_8_20 rfl ?_
                  refine zw_46i zr_8_21 km80_45_8 rfl rfl rfl ?_
                  refine zw_push zr_8_24 ?_
                  refine zw_16 zr_8_25 (by omega) ?_
                  refine zw_47 (c := 45) zr_8_26 rfl ⟨rfl, by decide, rfl⟩ ?_
                  intro m81 em81
                  have hIm81 : zInv m81 := by rw [em81]; exact hIm80.bd (r := 45) (k := 8) (lo := 0) (hi := 50) rfl (by omega) (by decide) (by decide) (by decide)
                  have hFm81 : zFr W_14 m0 m81 := by rw [em81]; exact hFm80.up rfl
                  have km81_45_6 : m81 45 6 = (p8 + 1) := by rw [em81, zUp_ne (by omega)]; exact km80_45_6
                  have km81_45_8 : m81 45 8 = (f76 + 1) := by rw [em81]; exact zUp_eq _ _ _ _
                  clear em81
                  refine zw_R zr_8_29 (by decide) zm_8 (v := (9, 0)) rfl ?_
                  rw [← hQ1]
                  show zW E (d) 14 99 [(2, 45), (0, f1), (0, i5), (0, p8)] [] m81 Q
                  refine zw_42 zr_14_99 ?_
                  refine zw_7 zr_14_120 rfl ?_
                  refine zw_3 zr_14_121 rfl ?_
                  refine zw_3 zr_14_122 rfl ?_
                  refine zw_C zr_14_123 (Or.inl rfl) zm_11 rfl rfl ⟨Nat.le_of_ble_eq_true rfl, Nat.le_of_ble_eq_true rfl, Nat.le_of_ble_eq_true rfl, rfl, by decide⟩ (by omega) (th_11 (d := d - 1) (by omega) hIm81 (a0 := f1) (a1 := p8)   (by omega) (by omega)) ?_
                  rintro _ m82 ⟨rfl, hIm82, gm82⟩
                  have hFm82 : zFr W_14 m0 m82 := hFm81.trans gm82 rfl
                  have km82_45_6 : m82 45 6 = (p8 + 1) := (gm82 45 6 rfl).trans km81_45_6
                  show zW E (d) 14 126 [(2, 45), (0, f1), (0, i5), (0, p8)] [] m82 Q
                  refine zw_R zr_14_126 (by decide) zm_14 (v := (9, 0)) rfl ?_
                  rw [← hQ]; exact ⟨rfl, hIm82, hFm82, by omega⟩
            by_cases h83 : i5 = 121
            · refine zw_112 (off := 67) (t := 68) zr_10_1 (by rw [h83]; rfl) rfl ?_
              refine zw_push zr_10_68 ?_
              refine zw_R zr_10_69 (by decide) zm_10 (v := (0, 4)) rfl ?_
              rw [← hQ1]
              show zW E (d) 14 79 [(2, 45), (0, f1), (0, i5), (0, p8)] [(0, 4)] m7 Q
              refine zw_push zr_14_79 ?_
              refine zw_41_1 zr_14_80 ?_ ?_
              · intro h84; omega
              · intro h85
                refine zw_7 zr_14_83 rfl ?_
                refine zw_43 zr_14_84 rfl ?_
                refine zw_46i zr_14_85 km7_45_6 rfl rfl rfl ?_
                refine zw_push zr_14_88 ?_
                refine zw_16 zr_14_89 (by omega) ?_
                refine zw_47 (c := 45) zr_14_90 rfl ⟨rfl, by decide, rfl⟩ ?_
                intro m86 em86
                have hIm86 : zInv m86 := by rw [em86]; exact hIm7.bd (r := 45) (k := 6) (lo := 0) (hi := 50) rfl (by omega) (by decide) (by decide) (by decide)
                have hFm86 : zFr W_14 m0 m86 := by rw [em86]; exact hFm7.up rfl
                have km86_45_6 : m86 45 6 = (p8 + 1) := by rw [em86]; exact zUp_eq _ _ _ _
                clear em86
                refine zw_7 zr_14_93 rfl ?_
                refine zw_3 zr_14_94 rfl ?_
                refine zw_38 zr_14_95 (by omega) ?_
                refine zw_C zr_14_96 (Or.inl rfl) zm_8 rfl rfl ⟨Nat.le_of_ble_eq_true rfl, Nat.le_of_ble_eq_true rfl, Nat.le_of_ble_eq_true rfl, rfl, by decide⟩ (by omega) (P := (fun v m' => zW E (d) 14 99 [(2, 45), (0, f1), (0, i5), (0, p8)] (if v.1 = 9 then [] else v :: []) m' Q)) ?_ (fun _ _ h => h)
                generalize hQ1 : (fun v m' => zW E (d) 14 99 [(2, 45), (0, f1), (0, i5), (0, p8)] (if v.1 = 9 then [] else v :: []) m' Q) = Q1
                show zW E (d - 1) 8 0 [(2, 45), (0, (-i5))] [] m86 Q1
                refine zw_7 zr_8_0 rfl ?_
                obtain ⟨f87, ef87⟩ : ∃ v, m86 45 8 = v := ⟨_, rfl⟩
                have bf87 := ib_45_8 hIm86
                rw [ef87] at bf87
                refine zw_46i zr_8_1 ef87 rfl rfl rfl ?_
                refine zw_push zr_8_4 ?_
                refine zw_41_3 zr_8_6 ?_ ?_
                · intro h88
                  refine zw_R zr_8_29 (by decide) zm_8 (v := (9, 0)) rfl ?_
                  rw [← hQ1]
                  show zW E (d) 14 99 [(2, 45), (0, f1), (0, i5), (0, p8)] [] m86 Q
                  refine zw_42 zr_14_99 ?_
                  refine zw_7 zr_14_120 rfl ?_
                  refine zw_3 zr_14_121 rfl ?_
                  refine zw_3 zr_14_122 rfl ?_
                  refine zw_C zr_14_123 (Or.inl rfl) zm_11 rfl rfl ⟨Nat.le_of_ble_eq_true rfl, Nat.le_of_ble_eq_true rfl, Nat.le_of_ble_eq_true rfl, rfl, by decide⟩ (by omega) (th_11 (d := d - 1) (by omega) hIm86 (a0 := f1) (a1 := p8)   (by omega) (by omega)) ?_
                  rintro _ m89 ⟨rfl, hIm89, gm89⟩
                  have hFm89 : zFr W_14 m0 m89 := hFm86.trans gm89 rfl
                  have km89_45_6 : m89 45 6 = (p8 + 1) := (gm89 45 6 rfl).trans km86_45_6
                  show zW E (d) 14 126 [(2, 45), (0, f1), (0, i5), (0, p8)] [] m89 Q
                  refine zw_R zr_14_126 (by decide) zm_14 (v := (9, 0)) rfl ?_
                  rw [← hQ]; exact ⟨rfl, hIm89, hFm89, by omega⟩
                · intro h90
                  refine zw_7 zr_8_9 rfl ?_
                  refine zw_46r (s := 48) zr_8_10 rfl rfl rfl rfl ?_
                  refine zw_7 zr_8_13 rfl ?_
                  refine zw_46i zr_8_14 ef87 rfl rfl rfl ?_
                  refine zw_3 zr_8_17 rfl ?_
                  refine zw_49 (c := 48) (len := 50) zr_8_18 rfl rfl (by omega) (by omega) ?_
                  intro m91 em91
                  have hIm91 : zInv m91 := by rw [em91]; exact hIm86.any (by omega) rfl (by decide) (by decide)
                  have hFm91 : zFr W_14 m0 m91 := by rw [em91]; exact hFm86.any rfl
                  have km91_45_6 : m91 45 6 = (p8 + 1) := by rw [em91, zUp_ne (by omega)]; exact km86_45_6
                  have km91_45_8 : m91 45 8 = f87 := by rw [em91, zUp_ne (by omega)]; exact ef87
                  clear em91
                  refine zw_7 zr_8_19 rfl ?_
                  refine zw_43 zr_8_20 rfl ?_
                  refine zw_46i zr_8_21 km91_45_8 rfl rfl rfl ?_
                  refine zw_push zr_8_24 ?_
                  refine zw_16 zr_8_25 (by omega) ?_
                  refine zw_47 (c := 45) zr_8_26 rfl ⟨rfl, by decide, rfl⟩ ?_
                  intro m92 em92
                  have hIm92 : zInv m92 := by rw [em92]; exact hIm91.bd (r := 45) (k := 8) (lo := 0) (hi := 50) rfl (by omega) (by decide) (by decide) (by decide)
                  have hFm92 : zFr W_14 m0 m92 := by rw [em92]; exact hFm91.up rfl
                  have km92_45_6 : m92 45 6 = (p8 + 1) := by rw [em92, zUp_ne (by omega)]; exact km91_45_6
                  have km92_45_8 : m92 45 8 = (f87 + 1) := by rw [em92]; exact zUp_eq _ _ _ _
                  clear em92
                  refine zw_R zr_8_29 (by decide) zm_8 (v := (9, 0)) rfl ?_
                  rw [← hQ1]
                  show zW E (d) 14 99 [(2, 45), (0, f1), (0, i5), (0, p8)] [] m92 Q
                  refine zw_42 zr_14_99 ?_
                  refine zw_7 zr_14_120 rfl ?_
                  refine zw_3 zr_14_121 rfl ?_
                  refine zw_3 zr_14_122 rfl ?_
                  refine zw_C zr_14_123 (Or.inl rfl) zm_11 rfl rfl ⟨Nat.le_of_ble_eq_true rfl, Nat.le_of_ble_eq_true rfl, Nat.le_of_ble_eq_true rfl, rfl, by decide⟩ (by omega) (th_11 (d := d - 1) (by omega) hIm92 (a0 := f1) (a1 := p8)   (by omega) (by omega)) ?_
                  rintro _ m93 ⟨rfl, hIm93, gm93⟩
                  have hFm93 : zFr W_14 m0 m93 := hFm92.trans gm93 rfl
                  have km93_45_6 : m93 45 6 = (p8 + 1) := (gm93 45 6 rfl).trans km92_45_6
                  show zW E (d) 14 126 [(2, 45), (0, f1), (0, i5), (0, p8)] [] m93 Q
                  refine zw_R zr_14_126 (by decide) zm_14 (v := (9, 0)) rfl ?_
                  rw [← hQ]; exact ⟨rfl, hIm93, hFm93, by omega⟩
            refine zw_112 (off := 71) (t := 72) zr_10_1 (zlsw_df (by simp; omega)) rfl ?_
            refine zw_push zr_10_72 ?_
            refine zw_R zr_10_73 (by decide) zm_10 (v := (0, (-1))) rfl ?_
            rw [← hQ1]
            show zW E (d) 14 79 [(2, 45), (0, f1), (0, i5), (0, p8)] [(0, (-1))] m7 Q
            refine zw_push zr_14_79 ?_
            refine zw_41_1 zr_14_80 ?_ ?_
            · intro h94
              refine zw_3 zr_14_102 rfl ?_
              refine zw_push zr_14_103 ?_
              refine zw_41_4 zr_14_105 ?_ ?_
              · intro h95
                refine zw_7 zr_14_115 rfl ?_
                refine zw_push zr_14_116 ?_
                refine zw_C zr_14_117 (Or.inl rfl) zm_5 rfl rfl ⟨Nat.le_of_ble_eq_true rfl, Nat.le_of_ble_eq_true rfl, Nat.le_of_ble_eq_true rfl, rfl, by decide⟩ (by omega) (P := (fun v m' => zW E (d) 14 120 [(2, 45), (0, f1), (0, i5), (0, p8)] (if v.1 = 9 then [] else v :: []) m' Q)) ?_ (fun _ _ h => h)
                generalize hQ1 : (fun v m' => zW E (d) 14 120 [(2, 45), (0, f1), (0, i5), (0, p8)] (if v.1 = 9 then [] else v :: []) m' Q) = Q1
                show zW E (d - 1) 5 0 [(2, 45), (0, 1)] [] m7 Q1
                refine zw_7 zr_5_0 rfl ?_
                obtain ⟨f96, ef96⟩ : ∃ v, m7 45 1 = v := ⟨_, rfl⟩
                have bf96 := hIm7.fi (c := 45) (k := 1) rfl
                rw [ef96] at bf96
                refine zw_46i zr_5_1 ef96 rfl rfl rfl ?_
                refine zw_push zr_5_4 ?_
                refine zw_41_4 zr_5_5 ?_ ?_
                · intro h97
                  refine zw_R zr_5_21 (by decide) zm_5 (v := (9, 0)) rfl ?_
                  rw [← hQ1]
                  show zW E (d) 14 120 [(2, 45), (0, f1), (0, i5), (0, p8)] [] m7 Q
                  refine zw_7 zr_14_120 rfl ?_
                  refine zw_3 zr_14_121 rfl ?_
                  refine zw_3 zr_14_122 rfl ?_
                  refine zw_C zr_14_123 (Or.inl rfl) zm_11 rfl rfl ⟨Nat.le_of_ble_eq_true rfl, Nat.le_of_ble_eq_true rfl, Nat.le_of_ble_eq_true rfl, rfl, by decide⟩ (by omega) (th_11 (d := d - 1) (by omega) hIm7 (a0 := f1) (a1 := p8)   (by omega) (by omega)) ?_
                  rintro _ m98 ⟨rfl, hIm98, gm98⟩
                  have hFm98 : zFr W_14 m0 m98 := hFm7.trans gm98 rfl
                  have km98_45_6 : m98 45 6 = p8 := (gm98 45 6 rfl).trans km7_45_6
                  have km98_45_1 : m98 45 1 = f96 := (gm98 45 1 rfl).trans ef96
                  show zW E (d) 14 126 [(2, 45), (0, f1), (0, i5), (0, p8)] [] m98 Q
                  refine zw_R zr_14_126 (by decide) zm_14 (v := (9, 0)) rfl ?_
                  rw [← hQ]; exact ⟨rfl, hIm98, hFm98, by omega⟩
                · intro h99
                  refine zw_7 zr_5_8 rfl ?_
                  refine zw_7 zr_5_9 rfl ?_
                  refine zw_46i zr_5_10 km7_45_6 rfl rfl rfl ?_
                  refine zw_push zr_5_13 ?_
                  refine zw_18 zr_5_15 (by omega) ?_
                  refine zw_3 zr_5_16 rfl ?_
                  refine zw_16 zr_5_17 (by omega) ?_
                  refine zw_47 (c := 45) zr_5_18 rfl ⟨rfl, by decide, rfl⟩ ?_
                  intro m100 em100
                  have hIm100 : zInv m100 := by rw [em100]; exact hIm7.any (by omega) rfl (by decide) (by decide)
                  have hFm100 : zFr W_14 m0 m100 := by rw [em100]; exact hFm7.up rfl
                  have km100_45_6 : m100 45 6 = p8 := by rw [em100, zUp_ne (by omega)]; exact km7_45_6
                  have km100_45_1 : m100 45 1 = ((p8 * 10) + 1) := by rw [em100]; exact zUp_eq _ _ _ _
                  clear em100
                  refine zw_R zr_5_21 (by decide) zm_5 (v := (9, 0)) rfl ?_
                  rw [← hQ1]
                  show zW E (d) 14 120 [(2, 45), (0, f1), (0, i5), (0, p8)] [] m100 Q
                  refine zw_7 zr_14_120 rfl ?_
                  refine zw_3 zr_14_121 rfl ?_
                  refine zw_3 zr_14_122 rfl ?_
                  refine zw_C zr_14_123 (Or.inl rfl) zm_11 rfl rfl ⟨Nat.le_of_ble_eq_true rfl, Nat.le_of_ble_eq_true rfl, Nat.le_of_ble_eq_true rfl, rfl, by decide⟩ (by omega) (th_11 (d := d - 1) (by omega) hIm100 (a0 := f1) (a1 := p8)   (by omega) (by omega)) ?_
                  rintro _ m101 ⟨rfl, hIm101, gm101⟩
                  have hFm101 : zFr W_14 m0 m101 := hFm100.trans gm101 rfl
                  have km101_45_6 : m101 45 6 = p8 := (gm101 45 6 rfl).trans km100_45_6
                  have km101_45_1 : m101 45 1 = ((p8 * 10) + 1) := (gm101 45 1 rfl).trans km100_45_1
                  show zW E (d) 14 126 [(2, 45), (0, f1), (0, i5), (0, p8)] [] m101 Q
                  refine zw_R zr_14_126 (by decide) zm_14 (v := (9, 0)) rfl ?_
                  rw [← hQ]; exact ⟨rfl, hIm101, hFm101, by omega⟩
              · intro h102; omega
            · intro h103; omega
          · intro h104
            refine zw_7 zr_14_68 rfl ?_
            refine zw_C zr_14_69 (Or.inl rfl) zm_9 rfl rfl ⟨Nat.le_of_ble_eq_true rfl, Nat.le_of_ble_eq_true rfl, Nat.le_of_ble_eq_true rfl, rfl, by decide⟩ (by omega) (th_9 (d := d - 1) (by omega) hIm7    ) ?_
            rintro _ m105 ⟨rfl, hIm105, gm105⟩
            have hFm105 : zFr W_14 m0 m105 := hFm7.trans gm105 rfl
            show zW E (d) 14 72 [(2, 45), (0, f1), (0, i5), (0, p8)] [] m105 Q
            refine zw_42 zr_14_72 ?_
            refine zw_7 zr_14_120 rfl ?_
            refine zw_3 zr_14_121 rfl ?_
            refine zw_3 zr_14_122 rfl ?_
            refine zw_C zr_14_123 (Or.inl rfl) zm_11 rfl rfl ⟨Nat.le_of_ble_eq_true rfl, Nat.le_of_ble_eq_true rfl, Nat.le_of_ble_eq_true rfl, rfl, by decide⟩ (by omega) (th_11 (d := d - 1) (by omega) hIm105 (a0 := f1) (a1 := p8)   (by omega) (by omega)) ?_
            rintro _ m106 ⟨rfl, hIm106, gm106⟩
            have hFm106 : zFr W_14 m0 m106 := hFm105.trans gm106 rfl
            show zW E (d) 14 126 [(2, 45), (0, f1), (0, i5), (0, p8)] [] m106 Q
            refine zw_R zr_14_126 (by decide) zm_14 (v := (9, 0)) rfl ?_
            rw [← hQ]; exact ⟨rfl, hIm106, hFm106, by omega⟩
      · intro h107
        refine zw_3 zr_14_18 rfl ?_
        refine zw_push zr_14_19 ?_
        refine zw_41_1 zr_14_21 ?_ ?_
        · intro h108
          refine zw_7 zr_14_30 rfl ?_
          refine zw_43 zr_14_31 rfl ?_
          refine zw_46i zr_14_32 km7_45_6 rfl rfl rfl ?_
          refine zw_push zr_14_35 ?_
          refine zw_16 zr_14_36 (by omega) ?_
          refine zw_47 (c := 45) zr_14_37 rfl ⟨rfl, by decide, rfl⟩ ?_
          intro m109 em109
          have hIm109 : zInv m109 := by rw [em109]; exact hIm7.bd (r := 45) (k := 6) (lo := 0) (hi := 50) rfl (by omega) (by decide) (by decide) (by decide)
          have hFm109 : zFr W_14 m0 m109 := by rw [em109]; exact hFm7.up rfl
          have km109_45_6 : m109 45 6 = (p8 + 1) := by rw [em109]; exact zUp_eq _ _ _ _
          clear em109
          refine zw_7 zr_14_40 rfl ?_
          refine zw_C zr_14_41 (Or.inl rfl) zm_6 rfl rfl ⟨Nat.le_of_ble_eq_true rfl, Nat.le_of_ble_eq_true rfl, Nat.le_of_ble_eq_true rfl, rfl, by decide⟩ (by omega) (th_6 (d := d - 1) (by omega) hIm109    ) ?_
          rintro _ m110 ⟨r111, rfl, hr111a, hr111b, hIm110, gm110, po0_r111⟩
          have hFm110 : zFr W_14 m0 m110 := hFm109.trans gm110 rfl
          obtain ⟨f112, ef112⟩ : ∃ v, m110 45 6 = v := ⟨_, rfl⟩
          have bf112 := ib_45_6 hIm110
          rw [ef112] at bf112
          show zW E (d) 14 44 [(2, 45), (0, f1), (0, i5), (0, i6)] [(0, r111)] m110 Q
          refine zw_9 (L' := [(2, 45), (0, f1), (0, r111), (0, i6)]) zr_14_44 (Nat.le_of_ble_eq_true rfl) rfl ?_
          refine zw_15 (c := 1) (L' := [(2, 45), (0, f1), (0, r111), (0, (i6 + 1))]) zr_14_45 rfl (by decide) (by omega) rfl ?_
          refine zw_42 zr_14_48 ?_
          exact zw_less (L := [(2, 45), (0, f1), (0, r111), (0, (i6 + 1))]) ⟨Or.inr rfl, Or.inr rfl, Or.inr rfl, Or.inr rfl, trivial⟩ (ihlp12_9 (r111) ((i6 + 1)) (f112) m110 hIm110 hFm110  ef112 (by omega) (by omega) (by omega) (by omega) (by omega) (by omega) (by omega) (by omega))
        · intro h113
          refine zw_3 zr_14_24 rfl ?_
          refine zw_push zr_14_25 ?_
          refine zw_41_4 zr_14_27 ?_ ?_
          · intro h114
            refine zw_7 zr_14_51 rfl ?_
            refine zw_46i zr_14_52 km7_45_6 rfl rfl rfl ?_
            refine zw_9 (L' := [(2, 45), (0, f1), (0, i5), (0, p8)]) zr_14_55 (Nat.le_of_ble_eq_true rfl) rfl ?_
            refine zw_3 zr_14_56 rfl ?_
            refine zw_push zr_14_57 ?_
            refine zw_41_0 zr_14_59 ?_ ?_
            · intro h115
              refine zw_3 zr_14_75 rfl ?_
              refine zw_C zr_14_76 (Or.inr rfl) zm_10 rfl rfl ⟨Nat.le_of_ble_eq_true rfl, Nat.le_of_ble_eq_true rfl, Nat.le_of_ble_eq_true rfl, rfl, by decide⟩ (by omega) (P := (fun v m' => zW E (d) 14 79 [(2, 45), (0, f1), (0, i5), (0, p8)] (if v.1 = 9 then [] else v :: []) m' Q)) ?_ (fun _ _ h => h)
              generalize hQ1 : (fun v m' => zW E (d) 14 79 [(2, 45), (0, f1), (0, i5), (0, p8)] (if v.1 = 9 then [] else v :: []) m' Q) = Q1
              show zW E (d - 1) 10 0 [(0, i5)] [] m7 Q1
              refine zw_3 zr_10_0 rfl ?_
              refine zw_112 (off := 71) (t := 72) zr_10_1 (zlsw_df (by simp; omega)) rfl ?_
              refine zw_push zr_10_72 ?_
              refine zw_R zr_10_73 (by decide) zm_10 (v := (0, (-1))) rfl ?_
              rw [← hQ1]
              show zW E (d) 14 79 [(2, 45), (0, f1), (0, i5), (0, p8)] [(0, (-1))] m7 Q
              refine zw_push zr_14_79 ?_
              refine zw_41_1 zr_14_80 ?_ ?_
              · intro h116
                refine zw_3 zr_14_102 rfl ?_
                refine zw_push zr_14_103 ?_
                refine zw_41_4 zr_14_105 ?_ ?_
                · intro h117
                  refine zw_7 zr_14_115 rfl ?_
                  refine zw_push zr_14_116 ?_
                  refine zw_C zr_14_117 (Or.inl rfl) zm_5 rfl rfl ⟨Nat.le_of_ble_eq_true rfl, Nat.le_of_ble_eq_true rfl, Nat.le_of_ble_eq_true rfl, rfl, by decide⟩ (by omega) (P := (fun v m' => zW E (d) 14 120 [(2, 45), (0, f1), (0, i5), (0, p8)] (if v.1 = 9 then [] else v :: []) m' Q)) ?_ (fun _ _ h => h)
                  generalize hQ1 : (fun v m' => zW E (d) 14 120 [(2, 45), (0, f1), (0, i5), (0, p8)] (if v.1 = 9 then [] else v :: []) m' Q) = Q1
                  show zW E (d - 1) 5 0 [(2, 45), (0, 1)] [] m7 Q1
                  refine zw_7 zr_5_0 rfl ?_
                  obtain ⟨f118, ef118⟩ : ∃ v, m7 45 1 = v := ⟨_, rfl⟩
                  have bf118 := hIm7.fi (c := 45) (k := 1) rfl
                  rw [ef118] at bf118
                  refine zw_46i zr_5_1 ef118 rfl rfl rfl ?_
                  refine zw_push zr_5_4 ?_
                  refine zw_41_4 zr_5_5 ?_ ?_
                  · intro h119
                    refine zw_R zr_5_21 (by decide) zm_5 (v := (9, 0)) rfl ?_
                    rw [← hQ1]
                    show zW E (d) 14 120 [(2, 45), (0, f1), (0, i5), (0, p8)] [] m7 Q
                    refine zw_7 zr_14_120 rfl ?_
                    refine zw_3 zr_14_121 rfl ?_
                    refine zw_3 zr_14_122 rfl ?_
                    refine zw_C zr_14_123 (Or.inl rfl) zm_11 rfl rfl ⟨Nat.le_of_ble_eq_true rfl, Nat.le_of_ble_eq_true rfl, Nat.le_of_ble_eq_true rfl, rfl, by decide⟩ (by omega) (th_11 (d := d - 1) (by omega) hIm7 (a0 := f1) (a1 := p8)   (by omega) (by omega)) ?_
                    rintro _ m120 ⟨rfl, hIm120, gm120⟩
                    have hFm120 : zFr W_14 m0 m120 := hFm7.trans gm120 rfl
                    have km120_45_6 : m120 45 6 = p8 := (gm120 45 6 rfl).trans km7_45_6
                    have km120_45_1 : m120 45 1 = f118 := (gm120 45 1 rfl).trans ef118
                    show zW E (d) 14 126 [(2, 45), (0, f1), (0, i5), (0, p8)] [] m120 Q
                    refine zw_R zr_14_126 (by decide) zm_14 (v := (9, 0)) rfl ?_
                    rw [← hQ]; exact ⟨rfl, hIm120, hFm120, by omega⟩
                  · intro h121
                    refine zw_7 zr_5_8 rfl ?_
                    refine zw_7 zr_5_9 rfl ?_
                    refine zw_46i zr_5_10 km7_45_6 rfl rfl rfl ?_
                    refine zw_push zr_5_13 ?_
                    refine zw_18 zr_5_15 (by omega) ?_
                    refine zw_3 zr_5_16 rfl ?_
                    refine zw_16 zr_5_17 (by omega) ?_
                    refine zw_47 (c := 45) zr_5_18 rfl ⟨rfl, by decide, rfl⟩ ?_
                    intro m122 em122
                    have hIm122 : zInv m122 := by rw [em122]; exact hIm7.any (by omega) rfl (by decide) (by decide)
                    have hFm122 : zFr W_14 m0 m122 := by rw [em122]; exact hFm7.up rfl
                    have km122_45_6 : m122 45 6 = p8 := by rw [em122, zUp_ne (by omega)]; exact km7_45_6
                    have km122_45_1 : m122 45 1 = ((p8 * 10) + 1) := by rw [em122]; exact zUp_eq _ _ _ _
                    clear em122
                    refine zw_R zr_5_21 (by decide) zm_5 (v := (9, 0)) rfl ?_
                    rw [← hQ1]
                    show zW E (d) 14 120 [(2, 45), (0, f1), (0, i5), (0, p8)] [] m122 Q
                    refine zw_7 zr_14_120 rfl ?_
                    refine zw_3 zr_14_121 rfl ?_
                    refine zw_3 zr_14_122 rfl ?_
                    refine zw_C zr_14_123 (Or.inl rfl) zm_11 rfl rfl ⟨Nat.le_of_ble_eq_true rfl, Nat.le_of_ble_eq_true rfl, Nat.le_of_ble_eq_true rfl, rfl, by decide⟩ (by omega) (th_11 (d := d - 1) (by omega) hIm122 (a0 := f1) (a1 := p8)   (by omega) (by omega)) ?_
                    rintro _ m123 ⟨rfl, hIm123, gm123⟩
                    have hFm123 : zFr W_14 m0 m123 := hFm122.trans gm123 rfl
                    have km123_45_6 : m123 45 6 = p8 := (gm123 45 6 rfl).trans km122_45_6
                    have km123_45_1 : m123 45 1 = ((p8 * 10) + 1) := (gm123 45 1 rfl).trans km122_45_1
                    show zW E (d) 14 126 [(2, 45), (0, f1), (0, i5), (0, p8)] [] m123 Q
                    refine zw_R zr_14_126 (by decide) zm_14 (v := (9, 0)) rfl ?_
                    rw [← hQ]; exact ⟨rfl, hIm123, hFm123, by omega⟩
                · intro h124
                  refine zw_7 zr_14_108 rfl ?_
                  obtain ⟨f125, ef125⟩ : ∃ v, m7 45 7 = v := ⟨_, rfl⟩
                  have bf125 := ib_45_7 hIm7
                  rw [ef125] at bf125
                  refine zw_C zr_14_109 (Or.inl rfl) zm_12 rfl rfl ⟨Nat.le_of_ble_eq_true rfl, Nat.le_of_ble_eq_true rfl, Nat.le_of_ble_eq_true rfl, rfl, by decide⟩ (by omega) (ih12 m7 (f125) (p8) (by omega) hIm7 ef125 km7_45_6 (by omega)) ?_
                  rintro _ m126 ⟨rfl, hIm126, gm126, po0_m126⟩
                  have hFm126 : zFr W_14 m0 m126 := hFm7.trans gm126 rfl
                  show zW E (d) 14 112 [(2, 45), (0, f1), (0, i5), (0, p8)] [] m126 Q
                  refine zw_42 zr_14_112 ?_
                  refine zw_7 zr_14_120 rfl ?_
                  refine zw_3 zr_14_121 rfl ?_
                  refine zw_3 zr_14_122 rfl ?_
                  refine zw_C zr_14_123 (Or.inl rfl) zm_11 rfl rfl ⟨Nat.le_of_ble_eq_true rfl, Nat.le_of_ble_eq_true rfl, Nat.le_of_ble_eq_true rfl, rfl, by decide⟩ (by omega) (th_11 (d := d - 1) (by omega) hIm126 (a0 := f1) (a1 := p8)   (by omega) (by omega)) ?_
                  rintro _ m127 ⟨rfl, hIm127, gm127⟩
                  have hFm127 : zFr W_14 m0 m127 := hFm126.trans gm127 rfl
                  have km127_45_7 : m127 45 7 = f125 := (gm127 45 7 rfl).trans po0_m126
                  show zW E (d) 14 126 [(2, 45), (0, f1), (0, i5), (0, p8)] [] m127 Q
                  refine zw_R zr_14_126 (by decide) zm_14 (v := (9, 0)) rfl ?_
                  rw [← hQ]; exact ⟨rfl, hIm127, hFm127, by omega⟩
              · intro h128; omega
            · intro h129
              refine zw_3 zr_14_62 rfl ?_
              refine zw_push zr_14_63 ?_
              refine zw_41_2 zr_14_65 ?_ ?_
              · intro h130
                refine zw_3 zr_14_75 rfl ?_
                refine zw_C zr_14_76 (Or.inr rfl) zm_10 rfl rfl ⟨Nat.le_of_ble_eq_true rfl, Nat.le_of_ble_eq_true rfl, Nat.le_of_ble_eq_true rfl, rfl, by decide⟩ (by omega) (P := (fun v m' => zW E (d) 14 79 [(2, 45), (0, f1), (0, i5), (0, p8)] (if v.1 = 9 then [] else v :: []) m' Q)) ?_ (fun _ _ h => h)
                generalize hQ1 : (fun v m' => zW E (d) 14 79 [(2, 45), (0, f1), (0, i5), (0, p8)] (if v.1 = 9 then [] else v :: []) m' Q) = Q1
                show zW E (d - 1) 10 0 [(0, i5)] [] m7 Q1
                refine zw_3 zr_10_0 rfl ?_
                by_cases h131 : i5 = 101
                · refine zw_112 (off := 63) (t := 64) zr_10_1 (by rw [h131]; rfl) rfl ?_
                  refine zw_push zr_10_64 ?_
                  refine zw_R zr_10_65 (by decide) zm_10 (v := (0, 2)) rfl ?_
                  rw [← hQ1]
                  show zW E (d) 14 79 [(2, 45), (0, f1), (0, i5), (0, p8)] [(0, 2)] m7 Q
                  refine zw_push zr_14_79 ?_
                  refine zw_41_1 zr_14_80 ?_ ?_
                  · intro h132; omega
                  · intro h133
                    refine zw_7 zr_14_83 rfl ?_
                    refine zw_43 zr_14_84 rfl ?_
                    refine zw_46i zr_14_85 km7_45_6 rfl rfl rfl ?_
                    refine zw_push zr_14_88 ?_
                    refine zw_16 zr_14_89 (by omega) ?_
                    refine zw_47 (c := 45) zr_14_90 rfl ⟨rfl, by decide, rfl⟩ ?_
                    intro m134 em134
                    have hIm134 : zInv m134 := by rw [em134]; exact hIm7.bd (r := 45) (k := 6) (lo := 0) (hi := 50) rfl (by omega) (by decide) (by decide) (by decide)
                    have hFm134 : zFr W_14 m0 m134 := by rw [em134]; exact hFm7.up rfl
                    have km134_45_6 : m134 45 6 = (p8 + 1) := by rw [em134]; exact zUp_eq _ _ _ _
                    clear em134
                    refine zw_7 zr_14_93 rfl ?_
                    refine zw_3 zr_14_94 rfl ?_
                    refine zw_38 zr_14_95 (by omega) ?_
                    refine zw_C zr_14_96 (Or.inl rfl) zm_8 rfl rfl ⟨Nat.le_of_ble_eq_true rfl, Nat.le_of_ble_eq_true rfl, Nat.le_of_ble_eq_true rfl, rfl, by decide⟩ (by omega) (P := (fun v m' => zW E (d) 14 99 [(2, 45), (0, f1), (0, i5), (0, p8)] (if v.1 = 9 then [] else v :: []) m' Q)) ?_ (fun _ _ h => h)
                    generalize hQ1 : (fun v m' => zW E (d) 14 99 [(2, 45), (0, f1), (0, i5), (0, p8)] (if v.1 = 9 then [] else v :: []) m' Q) = Q1
                    show zW E (d - 1) 8 0 [(2, 45), (0, (-i5))] [] m134 Q1
                    refine zw_7 zr_8_0 rfl ?_
                    obtain ⟨f135, ef135⟩ : ∃ v, m134 45 8 = v := ⟨_, rfl⟩
                    have bf135 := ib_45_8 hIm134
                    rw [ef135] at bf135
                    refine zw_46i zr_8_1 ef135 rfl rfl rfl ?_
                    refine zw_push zr_8_4 ?_
                    refine zw_41_3 zr_8_6 ?_ ?_
                    · intro h136
                      refine zw_R zr_8_29 (by decide) zm_8 (v := (9, 0)) rfl ?_
                      rw [← hQ1]
                      show zW E (d) 14 99 [(2, 45), (0, f1), (0, i5), (0, p8)] [] m134 Q
                      refine zw_42 zr_14_99 ?_
                      refine zw_7 zr_14_120 rfl ?_
                      refine zw_3 zr_14_121 rfl ?_
                      refine zw_3 zr_14_122 rfl ?_
                      refine zw_C zr_14_123 (Or.inl rfl) zm_11 rfl rfl ⟨Nat.le_of_ble_eq_true rfl, Nat.le_of_ble_eq_true rfl, Nat.le_of_ble_eq_true rfl, rfl, by decide⟩ (by omega) (th_11 (d := d - 1) (by omega) hIm134 (a0 := f1) (a1 := p8)   (by omega) (by omega)) ?_
                      rintro _ m137 ⟨rfl, hIm137, gm137⟩
                      have hFm137 : zFr W_14 m0 m137 := hFm134.trans gm137 rfl
                      have km137_45_6 : m137 45 6 = (p8 + 1) := (gm137 45 6 rfl).trans km134_45_6
                      show zW E (d) 14 126 [(2, 45), (0, f1), (0, i5), (0, p8)] [] m137 Q
                      refine zw_R zr_14_126 (by decide) zm_14 (v := (9, 0)) rfl ?_
                      rw [← hQ]; exact ⟨rfl, hIm137, hFm137, by omega⟩
                    · intro h138
                      refine zw_7 zr_8_9 rfl ?_
                      refine zw_46r (s := 48) zr_8_10 rfl rfl rfl rfl ?_
                      refine zw_7 zr_8_13 rfl ?_
                      refine zw_46i zr_8_14 ef135 rfl rfl rfl ?_
                      refine zw_3 zr_8_17 rfl ?_
                      refine zw_49 (c := 48) (len := 50) zr_8_18 rfl rfl (by omega) (by omega) ?_
                      intro m139 em139
                      have hIm139 : zInv m139 := by rw [em139]; exact hIm134.any (by omega) rfl (by decide) (by decide)
                      have hFm139 : zFr W_14 m0 m139 := by rw [em139]; exact hFm134.any rfl
                      have km139_45_6 : m139 45 6 = (p8 + 1) := by rw [em139, zUp_ne (by omega)]; exact km134_45_6
                      have km139_45_8 : m139 45 8 = f135 := by rw [em139, zUp_ne (by omega)]; exact ef135
                      clear em139
                      refine zw_7 zr_8_19 rfl ?_
                      refine zw_43 zr_8_20 rfl ?_
                      refine zw_46i zr_8_21 km139_45_8 rfl rfl rfl ?_
                      refine zw_push zr_8_24 ?_
                      refine zw_16 zr_8_25 (by omega) ?_
                      refine zw_47 (c := 45) zr_8_26 rfl ⟨rfl, by decide, rfl⟩ ?_
                      intro m140 em140
                      have hIm140 : zInv m140 := by rw [em140]; exact hIm139.bd (r := 45) (k := 8) (lo := 0) (hi := 50) rfl (by omega) (by decide) (by decide) (by decide)
                      have hFm140 : zFr W_14 m0 m140 := by rw [em140]; exact hFm139.up rfl
                      have km140_45_6 : m140 45 6 = (p8 + 1) := by rw [em140, zUp_ne (by omega)]; exact km139_45_6
                      have km140_45_8 : m140 45 8 = (f135 + 1) := by rw [em140]; exact zUp_eq _ _ _ _
                      clear em140
                      refine zw_R zr_8_29 (by decide) zm_8 (v := (9, 0)) rfl ?_
                      rw [← hQ1]
                      show zW E (d) 14 99 [(2, 45), (0, f1), (0, i5), (0, p8)] [] m140 Q
                      refine zw_42 zr_14_99 ?_
                      refine zw_7 zr_14_120 rfl ?_
                      refine zw_3 zr_14_121 rfl ?_
                      refine zw_3 zr_14_122 rfl ?_
                      refine zw_C zr_14_123 (Or.inl rfl) zm_11 rfl rfl ⟨Nat.le_of_ble_eq_true rfl, Nat.le_of_ble_eq_true rfl, Nat.le_of_ble_eq_true rfl, rfl, by decide⟩ (by omega) (th_11 (d := d - 1) (by omega) hIm140 (a0 := f1) (a1 := p8)   (by omega) (by omega)) ?_
                      rintro _ m141 ⟨rfl, hIm141, gm141⟩
                      have hFm141 : zFr W_14 m0 m141 := hFm140.trans gm141 rfl
                      have km141_45_6 : m141 45 6 = (p8 + 1) := (gm141 45 6 rfl).trans km140_45_6
                      show zW E (d) 14 126 [(2, 45), (0, f1), (0, i5), (0, p8)] [] m141 Q
                      refine zw_R zr_14_126 (by decide) zm_14 (v := (9, 0)) rfl ?_
                      rw [← hQ]; exact ⟨rfl, hIm141, hFm141, by omega⟩
                by_cases h142 : i5 = 103
                · refine zw_112 (off := 69) (t := 70) zr_10_1 (by rw [h142]; rfl) rfl ?_
                  refine zw_push zr_10_70 ?_
                  refine zw_R zr_10_71 (by decide) zm_10 (v := (0, 5)) rfl ?_
                  rw [← hQ1]
                  show zW E (d) 14 79 [(2, 45), (0, f1), (0, i5), (0, p8)] [(0, 5)] m7 Q
                  refine zw_push zr_14_79 ?_
                  refine zw_41_1 zr_14_80 ?_ ?_
                  · intro h143; omega
                  · intro h144
                    refine zw_7 zr_14_83 rfl ?_
                    refine zw_43 zr_14_84 rfl ?_
                    refine zw_46i zr_14_85 km7_45_6 rfl rfl rfl ?_
                    refine zw_push zr_14_88 ?_
                    refine zw_16 zr_14_89 (by omega) ?_
                    refine zw_47 (c := 45) zr_14_90 rfl ⟨rfl, by decide, rfl⟩ ?_
                    intro m145 em145
                    have hIm145 : zInv m145 := by rw [em145]; exact hIm7.bd (r := 45) (k := 6) (lo := 0) (hi := 50) rfl (by omega) (by decide) (by decide) (by decide)
                    have hFm145 : zFr W_14 m0 m145 := by rw [em145]; exact hFm7.up rfl
                    have km145_45_6 : m145 45 6 = (p8 + 1) := by rw [em145]; exact zUp_eq _ _ _ _
                    clear em145
                    refine zw_7 zr_14_93 rfl ?_
                    refine zw_3 zr_14_94 rfl ?_
                    refine zw_38 zr_14_95 (by omega) ?_
                    refine zw_C zr_14_96 (Or.inl rfl) zm_8 rfl rfl ⟨Nat.le_of_ble_eq_true rfl, Nat.le_of_ble_eq_true rfl, Nat.le_of_ble_eq_true rfl, rfl, by decide⟩ (by omega) (P := (fun v m' => zW E (d) 14 99 [(2, 45), (0, f1), (0, i5), (0, p8)] (if v.1 = 9 then [] else v :: []) m' Q)) ?_ (fun _ _ h => h)
                    generalize hQ1 : (fun v m' => zW E (d) 14 99 [(2, 45), (0, f1), (0, i5), (0, p8)] (if v.1 = 9 then [] else v :: []) m' Q) = Q1
                    show zW E (d - 1) 8 0 [(2, 45), (0, (-i5))] [] m145 Q1
                    refine zw_7 zr_8_0 rfl ?_
                    obtain ⟨f146, ef146⟩ : ∃ v, m145 45 8 = v := ⟨_, rfl⟩
                    have bf146 := ib_45_8 hIm145
                    rw [ef146] at bf146
                    refine zw_46i zr_8_1 ef146 rfl rfl rfl ?_
                    refine zw_push zr_8_4 ?_
                    refine zw_41_3 zr_8_6 ?_ ?_
                    · intro h147
                      refine zw_R zr_8_29 (by decide) zm_8 (v := (9, 0)) rfl ?_
                      rw [← hQ1]
                      show zW E (d) 14 99 [(2, 45), (0, f1), (0, i5), (0, p8)] [] m145 Q
                      refine zw_42 zr_14_99 ?_
                      refine zw_7 zr_14_120 rfl ?_
                      refine zw_3 zr_14_121 rfl ?_
                      refine zw_3 zr_14_122 rfl ?_
                      refine zw_C zr_14_123 (Or.inl rfl) zm_11 rfl rfl ⟨Nat.le_of_ble_eq_true rfl, Nat.le_of_ble_eq_true rfl, Nat.le_of_ble_eq_true rfl, rfl, by decide⟩ (by omega) (th_11 (d := d - 1) (by omega) hIm145 (a0 := f1) (a1 := p8)   (by omega) (by omega)) ?_
                      rintro _ m148 ⟨rfl, hIm148, gm148⟩
                      have hFm148 : zFr W_14 m0 m148 := hFm145.trans gm148 rfl
                      have km148_45_6 : m148 45 6 = (p8 + 1) := (gm148 45 6 rfl).trans km145_45_6
                      show zW E (d) 14 126 [(2, 45), (0, f1), (0, i5), (0, p8)] [] m148 Q
                      refine zw_R zr_14_126 (by decide) zm_14 (v := (9, 0)) rfl ?_
                      rw [← hQ]; exact ⟨rfl, hIm148, hFm148, by omega⟩
                    · intro h149
                      refine zw_7 zr_8_9 rfl ?_
                      refine zw_46r (s := 48) zr_8_10 rfl rfl rfl rfl ?_
                      refine zw_7 zr_8_13 rfl ?_
                      refine zw_46i zr_8_14 ef146 rfl rfl rfl ?_
                      refine zw_3 zr_8_17 rfl ?_
                      refine zw_49 (c := 48) (len := 50) zr_8_18 rfl rfl (by omega) (by omega) ?_
                      intro m150 em150
                      have hIm150 : zInv m150 := by rw [em150]; exact hIm145.any (by omega) rfl (by decide) (by decide)
                      have hFm150 : zFr W_14 m0 m150 := by rw [em150]; exact hFm145.any rfl
                      have km150_45_6 : m150 45 6 = (p8 + 1) := by rw [em150, zUp_ne (by omega)]; exact km145_45_6
                      have km150_45_8 : m150 45 8 = f146 := by rw [em150, zUp_ne (by omega)]; exact ef146
                      clear em150
                      refine zw_7 zr_8_19 rfl ?_
                      refine zw_43 zr_8_20 rfl ?_
                      refine zw_46i zr_8_21 km150_45_8 rfl rfl rfl ?_
                      refine zw_push zr_8_24 ?_
                      refine zw_16 zr_8_25 (by omega) ?_
                      refine zw_47 (c := 45) zr_8_26 rfl ⟨rfl, by decide, rfl⟩ ?_
                      intro m151 em151
                      have hIm151 : zInv m151 := by rw [em151]; exact hIm150.bd (r := 45) (k := 8) (lo := 0) (hi := 50) rfl (by omega) (by decide) (by decide) (by decide)
                      have hFm151 : zFr W_14 m0 m151 := by rw [em151]; exact hFm150.up rfl
                      have km151_45_6 : m151 45 6 = (p8 + 1) := by rw [em151, zUp_ne (by omega)]; exact km150_45_6
                      have km151_45_8 : m151 45 8 = (f146 + 1) := by rw [em151]; exact zUp_eq _ _ _ _
                      clear em151
                      refine zw_R zr_8_29 (by decide) zm_8 (v := (9, 0)) rfl ?_
                      rw [← hQ1]
                      show zW E (d) 14 99 [(2, 45), (0, f1), (0, i5), (0, p8)] [] m151 Q
                      refine zw_42 zr_14_99 ?_
                      refine zw_7 zr_14_120 rfl ?_
                      refine zw_3 zr_14_121 rfl ?_
                      refine zw_3 zr_14_122 rfl ?_
                      refine zw_C zr_14_123 (Or.inl rfl) zm_11 rfl rfl ⟨Nat.le_of_ble_eq_true rfl, Nat.le_of_ble_eq_true rfl, Nat.le_of_ble_eq_true rfl, rfl, by decide⟩ (by omega) (th_11 (d := d - 1) (by omega) hIm151 (a0 := f1) (a1 := p8)   (by omega) (by omega)) ?_
                      rintro _ m152 ⟨rfl, hIm152, gm152⟩
                      have hFm152 : zFr W_14 m0 m152 := hFm151.trans gm152 rfl
                      have km152_45_6 : m152 45 6 = (p8 + 1) := (gm152 45 6 rfl).trans km151_45_6
                      show zW E (d) 14 126 [(2, 45), (0, f1), (0, i5), (0, p8)] [] m152 Q
                      refine zw_R zr_14_126 (by decide) zm_14 (v := (9, 0)) rfl ?_
                      rw [← hQ]; exact ⟨rfl, hIm152, hFm152, by omega⟩
                by_cases h153 : i5 = 109
                · refine zw_112 (off := 65) (t := 66) zr_10_1 (by rw [h153]; rfl) rfl ?_
                  refine zw_push zr_10_66 ?_
                  refine zw_R zr_10_67 (by decide) zm_10 (v := (0, 3)) rfl ?_
                  rw [← hQ1]
                  show zW E (d) 14 79 [(2, 45), (0, f1), (0, i5), (0, p8)] [(0, 3)] m7 Q
                  refine zw_push zr_14_79 ?_
                  refine zw_41_1 zr_14_80 ?_ ?_
                  · intro h154; omega
                  · intro h155
                    refine zw_7 zr_14_83 rfl ?_
                    refine zw_43 zr_14_84 rfl ?_
                    refine zw_46i zr_14_85 km7_45_6 rfl rfl rfl ?_
                    refine zw_push zr_14_88 ?_
                    refine zw_16 zr_14_89 (by omega) ?_
                    refine zw_47 (c := 45) zr_14_90 rfl ⟨rfl, by decide, rfl⟩ ?_
                    intro m156 em156
                    have hIm156 : zInv m156 := by rw [em156]; exact hIm7.bd (r := 45) (k := 6) (lo := 0) (hi := 50) rfl (by omega) (by decide) (by decide) (by decide)
                    have hFm156 : zFr W_14 m0 m156 := by rw [em156]; exact hFm7.up rfl
                    have km156_45_6 : m156 45 6 = (p8 + 1) := by rw [em156]; exact zUp_eq _ _ _ _
                    clear em156
                    refine zw_7 zr_14_93 rfl ?_
                    refine zw_3 zr_14_94 rfl ?_
                    refine zw_38 zr_14_95 (by omega) ?_
                    refine zw_C zr_14_96 (Or.inl rfl) zm_8 rfl rfl ⟨Nat.le_of_ble_eq_true rfl, Nat.le_of_ble_eq_true rfl, Nat.le_of_ble_eq_true rfl, rfl, by decide⟩ (by omega) (P := (fun v m' => zW E (d) 14 99 [(2, 45), (0, f1), (0, i5), (0, p8)] (if v.1 = 9 then [] else v :: []) m' Q)) ?_ (fun _ _ h => h)
                    generalize hQ1 : (fun v m' => zW E (d) 14 99 [(2, 45), (0, f1), (0, i5), (0, p8)] (if v.1 = 9 then [] else v :: []) m' Q) = Q1
                    show zW E (d - 1) 8 0 [(2, 45), (0, (-i5))] [] m156 Q1
                    refine zw_7 zr_8_0 rfl ?_
                    obtain ⟨f157, ef157⟩ : ∃ v, m156 45 8 = v := ⟨_, rfl⟩
                    have bf157 := ib_45_8 hIm156
                    rw [ef157] at bf157
                    refine zw_46i zr_8_1 ef157 rfl rfl rfl ?_
                    refine zw_push zr_8_4 ?_
                    refine zw_41_3 zr_8_6 ?_ ?_
                    · intro h158
                      refine zw_R zr_8_29 (by decide) zm_8 (v := (9, 0)) rfl ?_
                      rw [← hQ1]
                      show zW E (d) 14 99 [(2, 45), (0, f1), (0, i5), (0, p8)] [] m156 Q
                      refine zw_42 zr_14_99 ?_
                      refine zw_7 zr_14_120 rfl ?_
                      refine zw_3 zr_14_121 rfl ?_
                      refine zw_3 zr_14_122 rfl ?_
                      refine zw_C zr_14_123 (Or.inl rfl) zm_11 rfl rfl ⟨Nat.le_of_ble_eq_true rfl, Nat.le_of_ble_eq_true rfl, Nat.le_of_ble_eq_true rfl, rfl, by decide⟩ (by omega) (th_11 (d := d - 1) (by omega) hIm156 (a0 := f1) (a1 := p8)   (by omega) (by omega)) ?_
                      rintro _ m159 ⟨rfl, hIm159, gm159⟩
                      have hFm159 : zFr W_14 m0 m159 := hFm156.trans gm159 rfl
                      have km159_45_6 : m159 45 6 = (p8 + 1) := (gm159 45 6 rfl).trans km156_45_6
                      show zW E (d) 14 126 [(2, 45), (0, f1), (0, i5), (0, p8)] [] m159 Q
                      refine zw_R zr_14_126 (by decide) zm_14 (v := (9, 0)) rfl ?_
                      rw [← hQ]; exact ⟨rfl, hIm159, hFm159, by omega⟩
                    · intro h160
                      refine zw_7 zr_8_9 rfl ?_
                      refine zw_46r (s := 48) zr_8_10 rfl rfl rfl rfl ?_
                      refine zw_7 zr_8_13 rfl ?_
                      refine zw_46i zr_8_14 ef157 rfl rfl rfl ?_
                      refine zw_3 zr_8_17 rfl ?_
                      refine zw_49 (c := 48) (len := 50) zr_8_18 rfl rfl (by omega) (by omega) ?_
                      intro m161 em161
                      have hIm161 : zInv m161 := by rw [em161]; exact hIm156.any (by omega) rfl (by decide) (by decide)
                      have hFm161 : zFr W_14 m0 m161 := by rw [em161]; exact hFm156.any rfl
                      have km161_45_6 : m161 45 6 = (p8 + 1) := by rw [em161, zUp_ne (by omega)]; exact km156_45_6
                      have km161_45_8 : m161 45 8 = f157 := by rw [em161, zUp_ne (by omega)]; exact ef157
                      clear em161
                      refine zw_7 zr_8_19 rfl ?_
                      refine zw_43 zr_8_20 rfl ?_
                      refine zw_46i zr_8_21 km161_45_8 rfl rfl rfl ?_
                      refine zw_push zr_8_24 ?_
                      refine zw_16 zr_8_25 (by omega) ?_
                      refine zw_47 (c := 45) zr_8_26 rfl ⟨rfl, by decide, rfl⟩ ?_
                      intro m162 em162
                      have hIm162 : zInv m162 := by rw [em162]; exact hIm161.bd (r := 45) (k := 8) (lo := 0) (hi := 50) rfl (by omega) (by decide) (by decide) (by decide)
                      have hFm162 : zFr W_14 m0 m162 := by rw [em162]; exact hFm161.up rfl
                      have km162_45_6 : m162 45 6 = (p8 + 1) := by rw [em162, zUp_ne (by omega)]; exact km161_45_6
                      have km162_45_8 : m162 45 8 = (f157 + 1) := by rw [em162]; exact zUp_eq _ _ _ _
                      clear em162
                      refine zw_R zr_8_29 (by decide) zm_8 (v := (9, 0)) rfl ?_
                      rw [← hQ1]
                      show zW E (d) 14 99 [(2, 45), (0, f1), (0, i5), (0, p8)] [] m162 Q
                      refine zw_42 zr_14_99 ?_
                      refine zw_7 zr_14_120 rfl ?_
                      refine zw_3 zr_14_121 rfl ?_
                      refine zw_3 zr_14_122 rfl ?_
                      refine zw_C zr_14_123 (Or.inl rfl) zm_11 rfl rfl ⟨Nat.le_of_ble_eq_true rfl, Nat.le_of_ble_eq_true rfl, Nat.le_of_ble_eq_true rfl, rfl, by decide⟩ (by omega) (th_11 (d := d - 1) (by omega) hIm162 (a0 := f1) (a1 := p8)   (by omega) (by omega)) ?_
                      rintro _ m163 ⟨rfl, hIm163, gm163⟩
                      have hFm163 : zFr W_14 m0 m163 := hFm162.trans gm163 rfl
                      have km163_45_6 : m163 45 6 = (p8 + 1) := (gm163 45 6 rfl).trans km162_45_6
                      show zW E (d) 14 126 [(2, 45), (0, f1), (0, i5), (0, p8)] [] m163 Q
                      refine zw_R zr_14_126 (by decide) zm_14 (v := (9, 0)) rfl ?_
                      rw [← hQ]; exact ⟨rfl, hIm163, hFm163, by omega⟩
                by_cases h164 : i5 = 111
                · refine zw_112 (off := 61) (t := 62) zr_10_1 (by rw [h164]; rfl) rfl ?_
                  refine zw_push zr_10_62 ?_
                  refine zw_R zr_10_63 (by decide) zm_10 (v := (0, 1)) rfl ?_
                  rw [← hQ1]
                  show zW E (d) 14 79 [(2, 45), (0, f1), (0, i5), (0, p8)] [(0, 1)] m7 Q
                  refine zw_push zr_14_79 ?_
                  refine zw_41_1 zr_14_80 ?_ ?_
                  · intro h165; omega
                  · intro h166
                    refine zw_7 zr_14_83 rfl ?_
                    refine zw_43 zr_14_84 rfl ?_
                    refine zw_46i zr_14_85 km7_45_6 rfl rfl rfl ?_
                    refine zw_push zr_14_88 ?_
                    refine zw_16 zr_14_89 (by omega) ?_
                    refine zw_47 (c := 45) zr_14_90 rfl ⟨rfl, by decide, rfl⟩ ?_
                    intro m167 em167
                    have hIm167 : zInv m167 := by rw [em167]; exact hIm7.bd (r := 45) (k := 6) (lo := 0) (hi := 50) rfl (by omega) (by decide) (by decide) (by decide)
                    have hFm167 : zFr W_14 m0 m167 := by rw [em167]; exact hFm7.up rfl
                    have km167_45_6 : m167 45 6 = (p8 + 1) := by rw [em167]; exact zUp_eq _ _ _ _
                    clear em167
                    refine zw_7 zr_14_93 rfl ?_
                    refine zw_3 zr_14_94 rfl ?_
                    refine zw_38 zr_14_95 (by omega) ?_
                    refine zw_C zr_14_96 (Or.inl rfl) zm_8 rfl rfl ⟨Nat.le_of_ble_eq_true rfl, Nat.le_of_ble_eq_true rfl, Nat.le_of_ble_eq_true rfl, rfl, by decide⟩ (by omega) (P := (fun v m' => zW E (d) 14 99 [(2, 45), (0, f1), (0, i5), (0, p8)] (if v.1 = 9 then [] else v :: []) m' Q)) ?_ (fun _ _ h => h)
                    generalize hQ1 : (fun v m' => zW E (d) 14 99 [(2, 45), (0, f1), (0, i5), (0, p8)] (if v.1 = 9 then [] else v :: []) m' Q) = Q1
                    show zW E (d - 1) 8 0 [(2, 45), (0, (-i5))] [] m167 Q1
                    refine zw_7 zr_8_0 rfl ?_
                    obtain ⟨f168, ef168⟩ : ∃ v, m167 45 8 = v := ⟨_, rfl⟩
                    have bf168 := ib_45_8 hIm167
                    rw [ef168] at bf168
                    refine zw_46i zr_8_1 ef168 rfl rfl rfl ?_
                    refine zw_push zr_8_4 ?_
                    refine zw_41_3 zr_8_6 ?_ ?_
                    · intro h169
                      refine zw_R zr_8_29 (by decide) zm_8 (v := (9, 0)) rfl ?_
                      rw [← hQ1]
                      show zW E (d) 14 99 [(2, 45), (0, f1), (0, i5), (0, p8)] [] m167 Q
                      refine zw_42 zr_14_99 ?_
                      refine zw_7 zr_14_120 rfl ?_
                      refine zw_3 zr_14_121 rfl ?_
                      refine zw_3 zr_14_122 rfl ?_
                      refine zw_C zr_14_123 (Or.inl rfl) zm_11 rfl rfl ⟨Nat.le_of_ble_eq_true rfl, Nat.le_of_ble_eq_true rfl, Nat.le_of_ble_eq_true rfl, rfl, by decide⟩ (by omega) (th_11 (d := d - 1) (by omega) hIm167 (a0 := f1) (a1 := p8)   (by omega) (by omega)) ?_
                      rintro _ m170 ⟨rfl, hIm170, gm170⟩
                      have hFm170 : zFr W_14 m0 m170 := hFm167.trans gm170 rfl
                      have km170_45_6 : m170 45 6 = (p8 + 1) := (gm170 45 6 rfl).trans km167_45_6
                      show zW E (d) 14 126 [(2, 45), (0, f1), (0, i5), (0, p8)] [] m170 Q
                      refine zw_R zr_14_126 (by decide) zm_14 (v := (9, 0)) rfl ?_
                      rw [← hQ]; exact ⟨rfl, hIm170, hFm170, by omega⟩
                    · intro h171
                      refine zw_7 zr_8_9 rfl ?_
                      refine zw_46r (s := 48) zr_8_10 rfl rfl rfl rfl ?_
                      refine zw_7 zr_8_13 rfl ?_
                      refine zw_46i zr_8_14 ef168 rfl rfl rfl ?_
                      refine zw_3 zr_8_17 rfl ?_
                      refine zw_49 (c := 48) (len := 50) zr_8_18 rfl rfl (by omega) (by omega) ?_
                      intro m172 em172
                      have hIm172 : zInv m172 := by rw [em172]; exact hIm167.any (by omega) rfl (by decide) (by decide)
                      have hFm172 : zFr W_14 m0 m172 := by rw [em172]; exact hFm167.any rfl
                      have km172_45_6 : m172 45 6 = (p8 + 1) := by rw [em172, zUp_ne (by omega)]; exact km167_45_6
                      have km172_45_8 : m172 45 8 = f168 := by rw [em172, zUp_ne (by omega)]; exact ef168
                      clear em172
                      refine zw_7 zr_8_19 rfl ?_
                      refine zw_43 zr_8_20 rfl ?_
                      refine zw_46i zr_8_21 km172_45_8 rfl rfl rfl ?_
                      refine zw_push zr_8_24 ?_
                      refine zw_16 zr_8_25 (by omega) ?_
                      refine zw_47 (c := 45) zr_8_26 rfl ⟨rfl, by decide, rfl⟩ ?_
                      intro m173 em173
                      have hIm173 : zInv m173 := by rw [em173]; exact hIm172.bd (r := 45) (k := 8) (lo := 0) (hi := 50) rfl (by omega) (by decide) (by decide) (by decide)
                      have hFm173 : zFr W_14 m0 m173 := by rw [em173]; exact hFm172.up rfl
                      have km173_45_6 : m173 45 6 = (p8 + 1) := by rw [em173, zUp_ne (by omega)]; exact km172_45_6
                      have km173_45_8 : m173 45 8 = (f168 + 1) := by rw [em173]; exact zUp_eq _ _ _ _
                      clear em173
                      refine zw_R zr_8_29 (by decide) zm_8 (v := (9, 0)) rfl ?_
                      rw [← hQ1]
                      show zW E (d) 14 99 [(2, 45), (0, f1), (0, i5), (0, p8)] [] m173 Q
                      refine zw_42 zr_14_99 ?_
                      refine zw_7 zr_14_120 rfl ?_
                      refine zw_3 zr_14_121 rfl ?_
                      refine zw_3 zr_14_122 rfl ?_
                      refine zw_C zr_14_123 (Or.inl rfl) zm_11 rfl rfl ⟨Nat.le_of_ble_eq_true rfl, Nat.le_of_ble_eq_true rfl, Nat.le_of_ble_eq_true rfl, rfl, by decide⟩ (by omega) (th_11 (d := d - 1) (by omega) hIm173 (a0 := f1) (a1 := p8)   (by omega) (by omega)) ?_
                      rintro _ m174 ⟨rfl, hIm174, gm174⟩
                      have hFm174 : zFr W_14 m0 m174 := hFm173.trans gm174 rfl
                      have km174_45_6 : m174 45 6 = (p8 + 1) := (gm174 45 6 rfl).trans km173_45_6
                      show zW E (d) 14 126 [(2, 45), (0, f1), (0, i5), (0, p8)] [] m174 Q
                      refine zw_R zr_14_126 (by decide) zm_14 (v := (9, 0)) rfl ?_
                      rw [← hQ]; exact ⟨rfl, hIm174, hFm174, by omega⟩
                by_cases h175 : i5 = 120
                · refine zw_112 (off := 59) (t := 60) zr_10_1 (by rw [h175]; rfl) rfl ?_
                  refine zw_push zr_10_60 ?_
                  refine zw_R zr_10_61 (by decide) zm_10 (v := (0, 0)) rfl ?_
                  rw [← hQ1]
                  show zW E (d) 14 79 [(2, 45), (0, f1), (0, i5), (0, p8)] [(0, 0)] m7 Q
                  refine zw_push zr_14_79 ?_
                  refine zw_41_1 zr_14_80 ?_ ?_
                  · intro h176; omega
                  · intro h177
                    refine zw_7 zr_14_83 rfl ?_
                    refine zw_43 zr_14_84 rfl ?_
                    refine zw_46i zr_14_85 km7_45_6 rfl rfl rfl ?_
                    refine zw_push zr_14_88 ?_
                    refine zw_16 zr_14_89 (by omega) ?_
                    refine zw_47 (c := 45) zr_14_90 rfl ⟨rfl, by decide, rfl⟩ ?_
                    intro m178 em178
                    have hIm178 : zInv m178 := by rw [em178]; exact hIm7.bd (r := 45) (k := 6) (lo := 0) (hi := 50) rfl (by omega) (by decide) (by decide) (by decide)
                    have hFm178 : zFr W_14 m0 m178 := by rw [em178]; exact hFm7.up rfl
                    have km178_45_6 : m178 45 6 = (p8 + 1) := by rw [em178]; exact zUp_eq _ _ _ _
                    clear em178
                    refine zw_7 zr_14_93 rfl ?_
                    refine zw_3 zr_14_94 rfl ?_
                    refine zw_38 zr_14_95 (by omega) ?_
                    refine zw_C zr_14_96 (Or.inl rfl) zm_8 rfl rfl ⟨Nat.le_of_ble_eq_true rfl, Nat.le_of_ble_eq_true rfl, Nat.le_of_ble_eq_true rfl, rfl, by decide⟩ (by omega) (P := (fun v m' => zW E (d) 14 99 [(2, 45), (0, f1), (0, i5), (0, p8)] (if v.1 = 9 then [] else v :: []) m' Q)) ?_ (fun _ _ h => h)
                    generalize hQ1 : (fun v m' => zW E (d) 14 99 [(2, 45), (0, f1), (0, i5), (0, p8)] (if v.1 = 9 then [] else v :: []) m' Q) = Q1
                    show zW E (d - 1) 8 0 [(2, 45), (0, (-i5))] [] m178 Q1
                    refine zw_7 zr_8_0 rfl ?_
                    obtain ⟨f179, ef179⟩ : ∃ v, m178 45 8 = v := ⟨_, rfl⟩
                    have bf179 := ib_45_8 hIm178
                    rw [ef179] at bf179
                    refine zw_46i zr_8_1 ef179 rfl rfl rfl ?_
                    refine zw_push zr_8_4 ?_
                    refine zw_41_3 zr_8_6 ?_ ?_
                    · intro h180
                      refine zw_R zr_8_29 (by decide) zm_8 (v := (9, 0)) rfl ?_
                      rw [← hQ1]
                      show zW E (d) 14 99 [(2, 45), (0, f1), (0, i5), (0, p8)] [] m178 Q
                      refine zw_42 zr_14_99 ?_
                      refine zw_7 zr_14_120 rfl ?_
                      refine zw_3 zr_14_121 rfl ?_
                      refine zw_3 zr_14_122 rfl ?_
                      refine zw_C zr_14_123 (Or.inl rfl) zm_11 rfl rfl ⟨Nat.le_of_ble_eq_true rfl, Nat.le_of_ble_eq_true rfl, Nat.le_of_ble_eq_true rfl, rfl, by decide⟩ (by omega) (th_11 (d := d - 1) (by omega) hIm178 (a0 := f1) (a1 := p8)   (by omega) (by omega)) ?_
                      rintro _ m181 ⟨rfl, hIm181, gm181⟩
                      have hFm181 : zFr W_14 m0 m181 := hFm178.trans gm181 rfl
                      have km181_45_6 : m181 45 6 = (p8 + 1) := (gm181 45 6 rfl).trans km178_45_6
                      show zW E (d) 14 126 [(2, 45), (0, f1), (0, i5), (0, p8)] [] m181 Q
                      refine zw_R zr_14_126 (by decide) zm_14 (v := (9, 0)) rfl ?_
                      rw [← hQ]; exact ⟨rfl, hIm181, hFm181, by omega⟩
                    · intro h182
                      refine zw_7 zr_8_9 rfl ?_
                      refine zw_46r (s := 48) zr_8_10 rfl rfl rfl rfl ?_
                      refine zw_7 zr_8_13 rfl ?_
                      refine zw_46i zr_8_14 ef179 rfl rfl rfl ?_
                      refine zw_3 zr_8_17 rfl ?_
                      refine zw_49 (c := 48) (len := 50) zr_8_18 rfl rfl (by omega) (by omega) ?_
                      intro m183 em183
                      have hIm183 : zInv m183 := by rw [em183]; exact hIm178.any (by omega) rfl (by decide) (by decide)
                      have hFm183 : zFr W_14 m0 m183 := by rw [em183]; exact hFm178.any rfl
                      have km183_45_6 : m183 45 6 = (p8 + 1) := by rw [em183, zUp_ne (by omega)]; exact km178_45_6
                      have km183_45_8 : m183 45 8 = f179 := by rw [em183, zUp_ne (by omega)]; exact ef179
                      clear em183
                      refine zw_7 zr_8_19 rfl ?_
                      refine zw_43 zr_8_20 rfl ?_
                      refine zw_46i zr_8_21 km183_45_8 rfl rfl rfl ?_
                      refine zw_push zr_8_24 ?_
                      refine zw_16 zr_8_25 (by omega) ?_
                      refine zw_47 (c := 45) zr_8_26 rfl ⟨rfl, by decide, rfl⟩ ?_
                      intro m184 em184
                      have hIm184 : zInv m184 := by rw [em184]; exact hIm183.bd (r := 45) (k := 8) (lo := 0) (hi := 50) rfl (by omega) (by decide) (by decide) (by decide)
                      have hFm184 : zFr W_14 m0 m184 := by rw [em184]; exact hFm183.up rfl
                      have km184_45_6 : m184 45 6 = (p8 + 1) := by rw [em184, zUp_ne (by omega)]; exact km183_45_6
                      have km184_45_8 : m184 45 8 = (f179 + 1) := by rw [em184]; exact zUp_eq _ _ _ _
                      clear em184
                      refine zw_R zr_8_29 (by decide) zm_8 (v := (9, 0)) rfl ?_
                      rw [← hQ1]
                      show zW E (d) 14 99 [(2, 45), (0, f1), (0, i5), (0, p8)] [] m184 Q
                      refine zw_42 zr_14_99 ?_
                      refine zw_7 zr_14_120 rfl ?_
                      refine zw_3 zr_14_121 rfl ?_
                      refine zw_3 zr_14_122 rfl ?_
                      refine zw_C zr_14_123 (Or.inl rfl) zm_11 rfl rfl ⟨Nat.le_of_ble_eq_true rfl, Nat.le_of_ble_eq_true rfl, Nat.le_of_ble_eq_true rfl, rfl, by decide⟩ (by omega) (th_11 (d := d - 1) (by omega) hIm184 (a0 := f1) (a1 := p8)   (by omega) (by omega)) ?_
                      rintro _ m185 ⟨rfl, hIm185, gm185⟩
                      have hFm185 : zFr W_14 m0 m185 := hFm184.trans gm185 rfl
                      have km185_45_6 : m185 45 6 = (p8 + 1) := (gm185 45 6 rfl).trans km184_45_6
                      show zW E (d) 14 126 [(2, 45), (0, f1), (0, i5), (0, p8)] [] m185 Q
                      refine zw_R zr_14_126 (by decide) zm_14 (v := (9, 0)) rfl ?_
                      rw [← hQ]; exact ⟨rfl, hIm185, hFm185, by omega⟩
                by_cases h186 : i5 = 121
                · refine zw_112 (off := 67) (t := 68) zr_10_1 (by rw [h186]; rfl) rfl ?_
                  refine zw_push zr_10_68 ?_
                  refine zw_R zr_10_69 (by decide) zm_10 (v := (0, 4)) rfl ?_
                  rw [← hQ1]
                  show zW E (d) 14 79 [(2, 45), (0, f1), (0, i5), (0, p8)] [(0, 4)] m7 Q
                  refine zw_push zr_14_79 ?_
                  refine zw_41_1 zr_14_80 ?_ ?_
                  · intro h187; omega
                  · intro h188
                    refine zw_7 zr_14_83 rfl ?_
                    refine zw_43 zr_14_84 rfl ?_
                    refine zw_46i zr_14_85 km7_45_6 rfl rfl rfl ?_
                    refine zw_push zr_14_88 ?_
                    refine zw_16 zr_14_89 (by omega) ?_
                    refine zw_47 (c := 45) zr_14_90 rfl ⟨rfl, by decide, rfl⟩ ?_
                    intro m189 em189
                    have hIm189 : zInv m189 := by rw [em189]; exact hIm7.bd (r := 45) (k := 6) (lo := 0) (hi := 50) rfl (by omega) (by decide) (by decide) (by decide)
                    have hFm189 : zFr W_14 m0 m189 := by rw [em189]; exact hFm7.up rfl
                    have km189_45_6 : m189 45 6 = (p8 + 1) := by rw [em189]; exact zUp_eq _ _ _ _
                    clear em189
                    refine zw_7 zr_14_93 rfl ?_
                    refine zw_3 zr_14_94 rfl ?_
                    refine zw_38 zr_14_95 (by omega) ?_
                    refine zw_C zr_14_96 (Or.inl rfl) zm_8 rfl rfl ⟨Nat.le_of_ble_eq_true rfl, Nat.le_of_ble_eq_true rfl, Nat.le_of_ble_eq_true rfl, rfl, by decide⟩ (by omega) (P := (fun v m' => zW E (d) 14 99 [(2, 45), (0, f1), (0, i5), (0, p8)] (if v.1 = 9 then [] else v :: []) m' Q)) ?_ (fun _ _ h => h)
                    generalize hQ1 : (fun v m' => zW E (d) 14 99 [(2, 45), (0, f1), (0, i5), (0, p8)] (if v.1 = 9 then [] else v :: []) m' Q) = Q1
                    show zW E (d - 1) 8 0 [(2, 45), (0, (-i5))] [] m189 Q1
                    refine zw_7 zr_8_0 rfl ?_
                    obtain ⟨f190, ef190⟩ : ∃ v, m189 45 8 = v := ⟨_, rfl⟩
                    have bf190 := ib_45_8 hIm189
                    rw [ef190] at bf190
                    refine zw_46i zr_8_1 ef190 rfl rfl rfl ?_
                    refine zw_push zr_8_4 ?_
                    refine zw_41_3 zr_8_6 ?_ ?_
                    · intro h191
                      refine zw_R zr_8_29 (by decide) zm_8 (v := (9, 0)) rfl ?_
                      rw [← hQ1]
                      show zW E (d) 14 99 [(2, 45), (0, f1), (0, i5), (0, p8)] [] m189 Q
                      refine zw_42 zr_14_99 ?_
                      refine zw_7 zr_14_120 rfl ?_
                      refine zw_3 zr_14_121 rfl ?_
                      refine zw_3 zr_14_122 rfl ?_
                      refine zw_C zr_14_123 (Or.inl rfl) zm_11 rfl rfl ⟨Nat.le_of_ble_eq_true rfl, Nat.le_of_ble_eq_true rfl, Nat.le_of_ble_eq_true rfl, rfl, by decide⟩ (by omega) (th_11 (d := d - 1) (by omega) hIm189 (a0 := f1) (a1 := p8)   (by omega) (by omega)) ?_
                      rintro _ m192 ⟨rfl, hIm192, gm192⟩
                      have hFm192 : zFr W_14 m0 m192 := hFm189.trans gm192 rfl
                      have km192_45_6 : m192 45 6 = (p8 + 1) := (gm192 45 6 rfl).trans km189_45_6
                      show zW E (d) 14 126 [(2, 45), (0, f1), (0, i5), (0, p8)] [] m192 Q
                      refine zw_R zr_14_126 (by decide) zm_14 (v := (9, 0)) rfl ?_
                      rw [← hQ]; exact ⟨rfl, hIm192, hFm192, by omega⟩
                    · intro h193
                      refine zw_7 zr_8_9 rfl ?_
                      refine zw_46r (s := 48) zr_8_10 rfl rfl rfl rfl ?_
                      refine zw_7 zr_8_13 rfl ?_
                      refine zw_46i zr_8_14 ef190 rfl rfl rfl ?_
                      refine zw_3 zr_8_17 rfl ?_
                      refine zw_49 (c := 48) (len := 50) zr_8_18 rfl rfl (by omega) (by omega) ?_
                      intro m194 em194
                      have hIm194 : zInv m194 := by rw [em194]; exact hIm189.any (by omega) rfl (by decide) (by decide)
                      have hFm194 : zFr W_14 m0 m194 := by rw [em194]; exact hFm189.any rfl
                      have km194_45_6 : m194 45 6 = (p8 + 1) := by rw [em194, zUp_ne (by omega)]; exact km189_45_6
                      have km194_45_8 : m194 45 8 = f190 := by rw [em194, zUp_ne (by omega)]; exact ef190
                      clear em194
                      refine zw_7 zr_8_19 rfl ?_
                      refine zw_43 zr_8_20 rfl ?_
                      refine zw_46i zr_8_21 km194_45_8 rfl rfl rfl ?_
                      refine zw_push zr_8_24 ?_
                      refine zw_16 zr_8_25 (by omega) ?_
                      refine zw_47 (c := 45) zr_8_26 rfl ⟨rfl, by decide, rfl⟩ ?_
                      intro m195 em195
                      have hIm195 : zInv m195 := by rw [em195]; exact hIm194.bd (r := 45) (k := 8) (lo := 0) (hi := 50) rfl (by omega) (by decide) (by decide) (by decide)
                      have hFm195 : zFr W_14 m0 m195 := by rw [em195]; exact hFm194.up rfl
                      have km195_45_6 : m195 45 6 = (p8 + 1) := by rw [em195, zUp_ne (by omega)]; exact km194_45_6
                      have km195_45_8 : m195 45 8 = (f190 + 1) := by rw [em195]; exact zUp_eq _ _ _ _
                      clear em195
                      refine zw_R zr_8_29 (by decide) zm_8 (v := (9, 0)) rfl ?_
                      rw [← hQ1]
                      show zW E (d) 14 99 [(2, 45), (0, f1), (0, i5), (0, p8)] [] m195 Q
                      refine zw_42 zr_14_99 ?_
                      refine zw_7 zr_14_120 rfl ?_
                      refine zw_3 zr_14_121 rfl ?_
                      refine zw_3 zr_14_122 rfl ?_
                      refine zw_C zr_14_123 (Or.inl rfl) zm_11 rfl rfl ⟨Nat.le_of_ble_eq_true rfl, Nat.le_of_ble_eq_true rfl, Nat.le_of_ble_eq_true rfl, rfl, by decide⟩ (by omega) (th_11 (d := d - 1) (by omega) hIm195 (a0 := f1) (a1 := p8)   (by omega) (by omega)) ?_
                      rintro _ m196 ⟨rfl, hIm196, gm196⟩
                      have hFm196 : zFr W_14 m0 m196 := hFm195.trans gm196 rfl
                      have km196_45_6 : m196 45 6 = (p8 + 1) := (gm196 45 6 rfl).trans km195_45_6
                      show zW E (d) 14 126 [(2, 45), (0, f1), (0, i5), (0, p8)] [] m196 Q
                      refine zw_R zr_14_126 (by decide) zm_14 (v := (9, 0)) rfl ?_
                      rw [← hQ]; exact ⟨rfl, hIm196, hFm196, by omega⟩
                refine zw_112 (off := 71) (t := 72) zr_10_1 (zlsw_df (by simp; omega)) rfl ?_
                refine zw_push zr_10_72 ?_
                refine zw_R zr_10_73 (by decide) zm_10 (v := (0, (-1))) rfl ?_
                rw [← hQ1]
                show zW E (d) 14 79 [(2, 45), (0, f1), (0, i5), (0, p8)] [(0, (-1))] m7 Q
                refine zw_push zr_14_79 ?_
                refine zw_41_1 zr_14_80 ?_ ?_
                · intro h197
                  refine zw_3 zr_14_102 rfl ?_
                  refine zw_push zr_14_103 ?_
                  refine zw_41_4 zr_14_105 ?_ ?_
                  · intro h198
                    refine zw_7 zr_14_115 rfl ?_
                    refine zw_push zr_14_116 ?_
                    refine zw_C zr_14_117 (Or.inl rfl) zm_5 rfl rfl ⟨Nat.le_of_ble_eq_true rfl, Nat.le_of_ble_eq_true rfl, Nat.le_of_ble_eq_true rfl, rfl, by decide⟩ (by omega) (P := (fun v m' => zW E (d) 14 120 [(2, 45), (0, f1), (0, i5), (0, p8)] (if v.1 = 9 then [] else v :: []) m' Q)) ?_ (fun _ _ h => h)
                    generalize hQ1 : (fun v m' => zW E (d) 14 120 [(2, 45), (0, f1), (0, i5), (0, p8)] (if v.1 = 9 then [] else v :: []) m' Q) = Q1
                    show zW E (d - 1) 5 0 [(2, 45), (0, 1)] [] m7 Q1
                    refine zw_7 zr_5_0 rfl ?_
                    obtain ⟨f199, ef199⟩ : ∃ v, m7 45 1 = v := ⟨_, rfl⟩
                    have bf199 := hIm7.fi (c := 45) (k := 1) rfl
                    rw [ef199] at bf199
                    refine zw_46i zr_5_1 ef199 rfl rfl rfl ?_
                    refine zw_push zr_5_4 ?_
                    refine zw_41_4 zr_5_5 ?_ ?_
                    · intro h200
                      refine zw_R zr_5_21 (by decide) zm_5 (v := (9, 0)) rfl ?_
                      rw [← hQ1]
                      show zW E (d) 14 120 [(2, 45), (0, f1), (0, i5), (0, p8)] [] m7 Q
                      refine zw_7 zr_14_120 rfl ?_
                      refine zw_3 zr_14_121 rfl ?_
                      refine zw_3 zr_14_122 rfl ?_
                      refine zw_C zr_14_123 (Or.inl rfl) zm_11 rfl rfl ⟨Nat.le_of_ble_eq_true rfl, Nat.le_of_ble_eq_true rfl, Nat.le_of_ble_eq_true rfl, rfl, by decide⟩ (by omega) (th_11 (d := d - 1) (by omega) hIm7 (a0 := f1) (a1 := p8)   (by omega) (by omega)) ?_
                      rintro _ m201 ⟨rfl, hIm201, gm201⟩
                      have hFm201 : zFr W_14 m0 m201 := hFm7.trans gm201 rfl
                      have km201_45_6 : m201 45 6 = p8 := (gm201 45 6 rfl).trans km7_45_6
                      have km201_45_1 : m201 45 1 = f199 := (gm201 45 1 rfl).trans ef199
                      show zW E (d) 14 126 [(2, 45), (0, f1), (0, i5), (0, p8)] [] m201 Q
                      refine zw_R zr_14_126 (by decide) zm_14 (v := (9, 0)) rfl ?_
                      rw [← hQ]; exact ⟨rfl, hIm201, hFm201, by omega⟩
                    · intro h202
                      refine zw_7 zr_5_8 rfl ?_
                      refine zw_7 zr_5_9 rfl ?_
                      refine zw_46i zr_5_10 km7_45_6 rfl rfl rfl ?_
                      refine zw_push zr_5_13 ?_
                      refine zw_18 zr_5_15 (by omega) ?_
                      refine zw_3 zr_5_16 rfl ?_
                      refine zw_16 zr_5_17 (by omega) ?_
                      refine zw_47 (c := 45) zr_5_18 rfl ⟨rfl, by decide, rfl⟩ ?_
                      intro m203 em203
                      have hIm203 : zInv m203 := by rw [em203]; exact hIm7.any (by omega) rfl (by decide) (by decide)
                      have hFm203 : zFr W_14 m0 m203 := by rw [em203]; exact hFm7.up rfl
                      have km203_45_6 : m203 45 6 = p8 := by rw [em203, zUp_ne (by omega)]; exact km7_45_6
                      have km203_45_1 : m203 45 1 = ((p8 * 10) + 1) := by rw [em203]; exact zUp_eq _ _ _ _
                      clear em203
                      refine zw_R zr_5_21 (by decide) zm_5 (v := (9, 0)) rfl ?_
                      rw [← hQ1]
                      show zW E (d) 14 120 [(2, 45), (0, f1), (0, i5), (0, p8)] [] m203 Q
                      refine zw_7 zr_14_120 rfl ?_
                      refine zw_3 zr_14_121 rfl ?_
                      refine zw_3 zr_14_122 rfl ?_
                      refine zw_C zr_14_123 (Or.inl rfl) zm_11 rfl rfl ⟨Nat.le_of_ble_eq_true rfl, Nat.le_of_ble_eq_true rfl, Nat.le_of_ble_eq_true rfl, rfl, by decide⟩ (by omega) (th_11 (d := d - 1) (by omega) hIm203 (a0 := f1) (a1 := p8)   (by omega) (by omega)) ?_
                      rintro _ m204 ⟨rfl, hIm204, gm204⟩
                      have hFm204 : zFr W_14 m0 m204 := hFm203.trans gm204 rfl
                      have km204_45_6 : m204 45 6 = p8 := (gm204 45 6 rfl).trans km203_45_6
                      have km204_45_1 : m204 45 1 = ((p8 * 10) + 1) := (gm204 45 1 rfl).trans km203_45_1
                      show zW E (d) 14 126 [(2, 45), (0, f1), (0, i5), (0, p8)] [] m204 Q
                      refine zw_R zr_14_126 (by decide) zm_14 (v := (9, 0)) rfl ?_
                      rw [← hQ]; exact ⟨rfl, hIm204, hFm204, by omega⟩
                  · intro h205; omega
                · intro h206; omega
              · intro h207
                refine zw_7 zr_14_68 rfl ?_
                refine zw_C zr_14_69 (Or.inl rfl) zm_9 rfl rfl ⟨Nat.le_of_ble_eq_true rfl, Nat.le_of_ble_eq_true rfl, Nat.le_of_ble_eq_true rfl, rfl, by decide⟩ (by omega) (th_9 (d := d - 1) (by omega) hIm7    ) ?_
                rintro _ m208 ⟨rfl, hIm208, gm208⟩
                have hFm208 : zFr W_14 m0 m208 := hFm7.trans gm208 rfl
                show zW E (d) 14 72 [(2, 45), (0, f1), (0, i5), (0, p8)] [] m208 Q
                refine zw_42 zr_14_72 ?_
                refine zw_7 zr_14_120 rfl ?_
                refine zw_3 zr_14_121 rfl ?_
                refine zw_3 zr_14_122 rfl ?_
                refine zw_C zr_14_123 (Or.inl rfl) zm_11 rfl rfl ⟨Nat.le_of_ble_eq_true rfl, Nat.le_of_ble_eq_true rfl, Nat.le_of_ble_eq_true rfl, rfl, by decide⟩ (by omega) (th_11 (d := d - 1) (by omega) hIm208 (a0 := f1) (a1 := p8)   (by omega) (by omega)) ?_
                rintro _ m209 ⟨rfl, hIm209, gm209⟩
                have hFm209 : zFr W_14 m0 m209 := hFm208.trans gm209 rfl
                show zW E (d) 14 126 [(2, 45), (0, f1), (0, i5), (0, p8)] [] m209 Q
                refine zw_R zr_14_126 (by decide) zm_14 (v := (9, 0)) rfl ?_
                rw [← hQ]; exact ⟨rfl, hIm209, hFm209, by omega⟩
          · intro h210
            refine zw_7 zr_14_30 rfl ?_
            refine zw_43 zr_14_31 rfl ?_
            refine zw_46i zr_14_32 km7_45_6 rfl rfl rfl ?_
            refine zw_push zr_14_35 ?_
            refine zw_16 zr_14_36 (by omega) ?_
            refine zw_47 (c := 45) zr_14_37 rfl ⟨rfl, by decide, rfl⟩ ?_
            intro m211 em211
            have hIm211 : zInv m211 := by rw [em211]; exact hIm7.bd (r := 45) (k := 6) (lo := 0) (hi := 50) rfl (by omega) (by decide) (by decide) (by decide)
            have hFm211 : zFr W_14 m0 m211 := by rw [em211]; exact hFm7.up rfl
            have km211_45_6 : m211 45 6 = (p8 + 1) := by rw [em211]; exact zUp_eq _ _ _ _
            clear em211
            refine zw_7 zr_14_40 rfl ?_
            refine zw_C zr_14_41 (Or.inl rfl) zm_6 rfl rfl ⟨Nat.le_of_ble_eq_true rfl, Nat.le_of_ble_eq_true rfl, Nat.le_of_ble_eq_true rfl, rfl, by decide⟩ (by omega) (th_6 (d := d - 1) (by omega) hIm211    ) ?_
            rintro _ m212 ⟨r213, rfl, hr213a, hr213b, hIm212, gm212, po0_r213⟩
            have hFm212 : zFr W_14 m0 m212 := hFm211.trans gm212 rfl
            obtain ⟨f214, ef214⟩ : ∃ v, m212 45 6 = v := ⟨_, rfl⟩
            have bf214 := ib_45_6 hIm212
            rw [ef214] at bf214
            show zW E (d) 14 44 [(2, 45), (0, f1), (0, i5), (0, i6)] [(0, r213)] m212 Q
            refine zw_9 (L' := [(2, 45), (0, f1), (0, r213), (0, i6)]) zr_14_44 (Nat.le_of_ble_eq_true rfl) rfl ?_
            refine zw_15 (c := 1) (L' := [(2, 45), (0, f1), (0, r213), (0, (i6 + 1))]) zr_14_45 rfl (by decide) (by omega) rfl ?_
            refine zw_42 zr_14_48 ?_
            exact zw_less (L := [(2, 45), (0, f1), (0, r213), (0, (i6 + 1))]) ⟨Or.inr rfl, Or.inr rfl, Or.inr rfl, Or.inr rfl, trivial⟩ (ihlp12_9 (r213) ((i6 + 1)) (f214) m212 hIm212 hFm212  ef214 (by omega) (by omega) (by omega) (by omega) (by omega) (by omega) (by omega) (by omega))
  exact lp12_9 _ (r3) (0) (f4) m2 hIm2 hFm2  ef4 (by omega) (by omega) (by omega) (by omega) (by omega) (by omega) (by omega) (Nat.lt_succ_self _)
set_option maxHeartbeats 8000000 in
theorem tr_12 {E : zE} {d : Nat} (ih13 : rs_13 E (d - 1)) (ih14 : rs_14 E (d - 1)) (ih12 : rs_12 E (d - 1)) : rs_12 E d := by
  intro m0 g0 g1 hd hI0 hg0 hg1 hp0
  have hF0 : zFr W_12 m0 m0 := zFr.rfl
  have bg0 := ib_45_7 hI0
  rw [hg0] at bg0
  have bg1 := ib_45_6 hI0
  rw [hg1] at bg1
  generalize hQ : (fun (v : zV) (m' : zM) => v = (9, 0) ∧ zInv m' ∧ zFr W_12 m0 m' ∧ (m' 45 7 = g0)) = Q
  show zW E d 12 0 [(2, 45)] [] m0 Q
  refine zw_7 zr_12_0 rfl ?_
  refine zw_46i zr_12_1 hg0 rfl rfl rfl ?_
  refine zw_push zr_12_4 ?_
  refine zw_41_0 zr_12_6 ?_ ?_
  · intro h1
    refine zw_7 zr_12_15 rfl ?_
    refine zw_43 zr_12_16 rfl ?_
    refine zw_46i zr_12_17 hg1 rfl rfl rfl ?_
    refine zw_push zr_12_20 ?_
    refine zw_16 zr_12_21 (by omega) ?_
    refine zw_47 (c := 45) zr_12_22 rfl ⟨rfl, by decide, rfl⟩ ?_
    intro m2 em2
    have hIm2 : zInv m2 := by rw [em2]; exact hI0.bd (r := 45) (k := 6) (lo := 0) (hi := 50) rfl (by omega) (by decide) (by decide) (by decide)
    have hFm2 : zFr W_12 m0 m2 := by rw [em2]; exact hF0.up rfl
    have km2_45_7 : m2 45 7 = g0 := by rw [em2, zUp_ne (by omega)]; exact hg0
    have km2_45_6 : m2 45 6 = (g1 + 1) := by rw [em2]; exact zUp_eq _ _ _ _
    clear em2
    refine zw_7 zr_12_25 rfl ?_
    refine zw_43 zr_12_26 rfl ?_
    refine zw_46i zr_12_27 km2_45_7 rfl rfl rfl ?_
    refine zw_push zr_12_30 ?_
    refine zw_16 zr_12_31 (by omega) ?_
    refine zw_47 (c := 45) zr_12_32 rfl ⟨rfl, by decide, rfl⟩ ?_
    intro m3 em3
    have hIm3 : zInv m3 := by rw [em3]; exact hIm2.bd (r := 45) (k := 7) (lo := 0) (hi := 8) rfl (by omega) (by decide) (by decide) (by decide)
    have hFm3 : zFr W_12 m0 m3 := by rw [em3]; exact hFm2.up rfl
    have km3_45_6 : m3 45 6 = (g1 + 1) := by rw [em3, zUp_ne (by omega)]; exact km2_45_6
    have km3_45_7 : m3 45 7 = (g0 + 1) := by rw [em3]; exact zUp_eq _ _ _ _
    clear em3
    refine zw_7 zr_12_35 rfl ?_
    refine zw_push zr_12_36 ?_
    refine zw_C zr_12_37 (Or.inl rfl) zm_13 rfl rfl ⟨Nat.le_of_ble_eq_true rfl, Nat.le_of_ble_eq_true rfl, Nat.le_of_ble_eq_true rfl, rfl, by decide⟩ (by omega) (ih13 m3 (0) ((g0 + 1)) (by omega) hIm3 km3_45_7 (by omega)) ?_
    rintro _ m4 ⟨rfl, hIm4, gm4, po0_m4⟩
    have hFm4 : zFr W_12 m0 m4 := hFm3.trans gm4 rfl
    show zW E (d) 12 40 [(2, 45)] [] m4 Q
    refine zw_7 zr_12_40 rfl ?_
    refine zw_43 zr_12_41 rfl ?_
    refine zw_46i zr_12_42 po0_m4 rfl rfl rfl ?_
    refine zw_push zr_12_45 ?_
    refine zw_17 zr_12_46 (by omega) ?_
    refine zw_47 (c := 45) zr_12_47 rfl ⟨rfl, by decide, rfl⟩ ?_
    intro m5 em5
    have hIm5 : zInv m5 := by rw [em5]; exact hIm4.bd (r := 45) (k := 7) (lo := 0) (hi := 8) rfl (by omega) (by decide) (by decide) (by decide)
    have hFm5 : zFr W_12 m0 m5 := by rw [em5]; exact hFm4.up rfl
    have km5_45_7 : m5 45 7 = ((g0 + 1) - 1) := by rw [em5]; exact zUp_eq _ _ _ _
    clear em5
    refine zw_7 zr_12_50 rfl ?_
    refine zw_C zr_12_51 (Or.inl rfl) zm_6 rfl rfl ⟨Nat.le_of_ble_eq_true rfl, Nat.le_of_ble_eq_true rfl, Nat.le_of_ble_eq_true rfl, rfl, by decide⟩ (by omega) (th_6 (d := d - 1) (by omega) hIm5    ) ?_
    rintro _ m6 ⟨r7, rfl, hr7a, hr7b, hIm6, gm6, po0_r7⟩
    have hFm6 : zFr W_12 m0 m6 := hFm5.trans gm6 rfl
    have km6_45_7 : m6 45 7 = ((g0 + 1) - 1) := (gm6 45 7 rfl).trans km5_45_7
    obtain ⟨f8, ef8⟩ : ∃ v, m6 45 6 = v := ⟨_, rfl⟩
    have bf8 := ib_45_6 hIm6
    rw [ef8] at bf8
    show zW E (d) 12 54 [(2, 45)] [(0, r7)] m6 Q
    refine zw_push zr_12_54 ?_
    refine zw_41_4 zr_12_56 ?_ ?_
    · intro h9
      refine zw_7 zr_12_72 rfl ?_
      refine zw_push zr_12_73 ?_
      refine zw_C zr_12_74 (Or.inl rfl) zm_5 rfl rfl ⟨Nat.le_of_ble_eq_true rfl, Nat.le_of_ble_eq_true rfl, Nat.le_of_ble_eq_true rfl, rfl, by decide⟩ (by omega) (P := (fun v m' => zW E (d) 12 77 [(2, 45)] (if v.1 = 9 then [] else v :: []) m' Q)) ?_ (fun _ _ h => h)
      generalize hQ1 : (fun v m' => zW E (d) 12 77 [(2, 45)] (if v.1 = 9 then [] else v :: []) m' Q) = Q1
      show zW E (d - 1) 5 0 [(2, 45), (0, 1)] [] m6 Q1
      refine zw_7 zr_5_0 rfl ?_
      obtain ⟨f10, ef10⟩ : ∃ v, m6 45 1 = v := ⟨_, rfl⟩
      have bf10 := hIm6.fi (c := 45) (k := 1) rfl
      rw [ef10] at bf10
      refine zw_46i zr_5_1 ef10 rfl rfl rfl ?_
      refine zw_push zr_5_4 ?_
      refine zw_41_4 zr_5_5 ?_ ?_
      · intro h11
        refine zw_R zr_5_21 (by decide) zm_5 (v := (9, 0)) rfl ?_
        rw [← hQ1]
        show zW E (d) 12 77 [(2, 45)] [] m6 Q
        refine zw_R zr_12_77 (by decide) zm_12 (v := (9, 0)) rfl ?_
        rw [← hQ]; exact ⟨rfl, hIm6, hFm6, by omega⟩
      · intro h12
        refine zw_7 zr_5_8 rfl ?_
        refine zw_7 zr_5_9 rfl ?_
        refine zw_46i zr_5_10 ef8 rfl rfl rfl ?_
        refine zw_push zr_5_13 ?_
        refine zw_18 zr_5_15 (by omega) ?_
        refine zw_3 zr_5_16 rfl ?_
        refine zw_16 zr_5_17 (by omega) ?_
        refine zw_47 (c := 45) zr_5_18 rfl ⟨rfl, by decide, rfl⟩ ?_
        intro m13 em13
        have hIm13 : zInv m13 := by rw [em13]; exact hIm6.any (by omega) rfl (by decide) (by decide)
        have hFm13 : zFr W_12 m0 m13 := by rw [em13]; exact hFm6.up rfl
        have km13_45_7 : m13 45 7 = ((g0 + 1) - 1) := by rw [em13, zUp_ne (by omega)]; exact km6_45_7
        have km13_45_6 : m13 45 6 = f8 := by rw [em13, zUp_ne (by omega)]; exact ef8
        have km13_45_1 : m13 45 1 = ((f8 * 10) + 1) := by rw [em13]; exact zUp_eq _ _ _ _
        clear em13
        refine zw_R zr_5_21 (by decide) zm_5 (v := (9, 0)) rfl ?_
        rw [← hQ1]
        show zW E (d) 12 77 [(2, 45)] [] m13 Q
        refine zw_R zr_12_77 (by decide) zm_12 (v := (9, 0)) rfl ?_
        rw [← hQ]; exact ⟨rfl, hIm13, hFm13, by omega⟩
    · intro h14
      refine zw_7 zr_12_59 rfl ?_
      refine zw_43 zr_12_60 rfl ?_
      refine zw_46i zr_12_61 ef8 rfl rfl rfl ?_
      refine zw_push zr_12_64 ?_
      refine zw_16 zr_12_65 (by omega) ?_
      refine zw_47 (c := 45) zr_12_66 rfl ⟨rfl, by decide, rfl⟩ ?_
      intro m15 em15
      have hIm15 : zInv m15 := by rw [em15]; exact hIm6.bd (r := 45) (k := 6) (lo := 0) (hi := 50) rfl (by omega) (by decide) (by decide) (by decide)
      have hFm15 : zFr W_12 m0 m15 := by rw [em15]; exact hFm6.up rfl
      have km15_45_7 : m15 45 7 = ((g0 + 1) - 1) := by rw [em15, zUp_ne (by omega)]; exact km6_45_7
      have km15_45_6 : m15 45 6 = (f8 + 1) := by rw [em15]; exact zUp_eq _ _ _ _
      clear em15
      refine zw_42 zr_12_69 ?_
      refine zw_R zr_12_77 (by decide) zm_12 (v := (9, 0)) rfl ?_
      rw [← hQ]; exact ⟨rfl, hIm15, hFm15, by omega⟩
  · intro h16
    refine zw_7 zr_12_9 rfl ?_
    refine zw_push zr_12_10 ?_
    refine zw_C zr_12_11 (Or.inl rfl) zm_5 rfl rfl ⟨Nat.le_of_ble_eq_true rfl, Nat.le_of_ble_eq_true rfl, Nat.le_of_ble_eq_true rfl, rfl, by decide⟩ (by omega) (P := (fun v m' => zW E (d) 12 14 [(2, 45)] (if v.1 = 9 then [] else v :: []) m' Q)) ?_ (fun _ _ h => h)
    generalize hQ1 : (fun v m' => zW E (d) 12 14 [(2, 45)] (if v.1 = 9 then [] else v :: []) m' Q) = Q1
    show zW E (d - 1) 5 0 [(2, 45), (0, 3)] [] m0 Q1
    refine zw_7 zr_5_0 rfl ?_
    obtain ⟨f17, ef17⟩ : ∃ v, m0 45 1 = v := ⟨_, rfl⟩
    have bf17 := hI0.fi (c := 45) (k := 1) rfl
    rw [ef17] at bf17
    refine zw_46i zr_5_1 ef17 rfl rfl rfl ?_
    refine zw_push zr_5_4 ?_
    refine zw_41_4 zr_5_5 ?_ ?_
    · intro h18
      refine zw_R zr_5_21 (by decide) zm_5 (v := (9, 0)) rfl ?_
      rw [← hQ1]
      show zW E (d) 12 14 [(2, 45)] [] m0 Q
      refine zw_R zr_12_14 (by decide) zm_12 (v := (9, 0)) rfl ?_
      rw [← hQ]; exact ⟨rfl, hI0, hF0, by omega⟩
    · intro h19
      refine zw_7 zr_5_8 rfl ?_
      refine zw_7 zr_5_9 rfl ?_
      refine zw_46i zr_5_10 hg1 rfl rfl rfl ?_
      refine zw_push zr_5_13 ?_
      refine zw_18 zr_5_15 (by omega) ?_
      refine zw_3 zr_5_16 rfl ?_
      refine zw_16 zr_5_17 (by omega) ?_
      refine zw_47 (c := 45) zr_5_18 rfl ⟨rfl, by decide, rfl⟩ ?_
      intro m20 em20
      have hIm20 : zInv m20 := by rw [em20]; exact hI0.any (by omega) rfl (by decide) (by decide)
      have hFm20 : zFr W_12 m0 m20 := by rw [em20]; exact hF0.up rfl
      have km20_45_7 : m20 45 7 = g0 := by rw [em20, zUp_ne (by omega)]; exact hg0
      have km20_45_6 : m20 45 6 = g1 := by rw [em20, zUp_ne (by omega)]; exact hg1
      have km20_45_1 : m20 45 1 = ((g1 * 10) + 3) := by rw [em20]; exact zUp_eq _ _ _ _
      clear em20
      refine zw_R zr_5_21 (by decide) zm_5 (v := (9, 0)) rfl ?_
      rw [← hQ1]
      show zW E (d) 12 14 [(2, 45)] [] m20 Q
      refine zw_R zr_12_14 (by decide) zm_12 (v := (9, 0)) rfl ?_
      rw [← hQ]; exact ⟨rfl, hIm20, hFm20, by omega⟩
theorem gr_13 (E : zE) : ∀ d, rs_13 E d ∧ rs_14 E d ∧ rs_12 E d := by
  intro d
  induction d with
  | zero => exact ⟨(by intro m0 a0 g0 hd; exfalso; omega), (by intro m0 g0 hd; exfalso; omega), (by intro m0 g0 g1 hd; exfalso; omega)⟩
  | succ d ih => exact ⟨tr_13 (d := d + 1) ih.1 ih.2.1 ih.2.2, tr_14 (d := d + 1) ih.1 ih.2.1 ih.2.2, tr_12 (d := d + 1) ih.1 ih.2.1 ih.2.2⟩
theorem th_13 {E : zE} {d : Nat} {m0 : zM} {a0 : Int} {g0 : Int} (hd : (10 * (8 - g0) + (6 - a0)).toNat + 6 ≤ d) (hI0 : zInv m0) (hg0 : m0 45 7 = g0) (ha0 : 0 ≤ a0 ∧ a0 ≤ 5) : zC E d 13 [(2, 45), (0, a0)] m0 (fun v m' => v = (9, 0) ∧ zInv m' ∧ zFr W_13 m0 m' ∧ (m' 45 7 = g0)) := (gr_13 E d).1 m0 a0 g0 hd hI0 hg0 ha0
theorem th_14 {E : zE} {d : Nat} {m0 : zM} {g0 : Int} (hd : (10 * (8 - g0)).toNat + 6 ≤ d) (hI0 : zInv m0) (hg0 : m0 45 7 = g0) : zC E d 14 [(2, 45)] m0 (fun v m' => v = (9, 0) ∧ zInv m' ∧ zFr W_14 m0 m' ∧ (m' 45 7 = g0)) := (gr_13 E d).2.1 m0 g0 hd hI0 hg0
theorem th_12 {E : zE} {d : Nat} {m0 : zM} {g0 : Int} {g1 : Int} (hd : (10 * (8 - g0)).toNat + 5 ≤ d) (hI0 : zInv m0) (hg0 : m0 45 7 = g0) (hg1 : m0 45 6 = g1) (hp0 : g1 ≤ 49) : zC E d 12 [(2, 45)] m0 (fun v m' => v = (9, 0) ∧ zInv m' ∧ zFr W_12 m0 m' ∧ (m' 45 7 = g0)) := (gr_13 E d).2.2 m0 g0 g1 hd hI0 hg0 hg1 hp0
