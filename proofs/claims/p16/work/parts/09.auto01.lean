abbrev W_150 : List (Nat × Nat) := [(70, 1000)]
set_option maxHeartbeats 8000000 in
theorem th_150 {E : zE} {d : Nat} {m0 : zM} {a0 : Int} {a1 : Int} (hd : 3 ≤ d) (hI0 : zInv m0) (ha0 : (-2147483648) ≤ a0 ∧ a0 ≤ 2147483647) (ha1 : (-2147483648) ≤ a1 ∧ a1 ≤ 2147483647) : zC E d 150 [(2, 69), (0, a0), (0, a1)] m0 (fun v m' => ∃ r : Int, v = (0, r) ∧ (-4) ≤ r ∧ r ≤ 50 ∧ zInv m' ∧ zFr W_150 m0 m') := by
  have hF0 : zFr W_150 m0 m0 := zFr.rfl
  generalize hQ : (fun (v : zV) (m' : zM) => ∃ r : Int, v = (0, r) ∧ (-4) ≤ r ∧ r ≤ 50 ∧ zInv m' ∧ zFr W_150 m0 m') = Q
  show zW E d 150 0 [(2, 69), (0, a0), (0, a1), (9, 0)] [] m0 Q
  refine zw_3 zr_150_0 rfl ?_
  refine zw_C zr_150_1 (Or.inr rfl) zm_148 rfl rfl ⟨Nat.le_of_ble_eq_true rfl, Nat.le_of_ble_eq_true rfl, Nat.le_of_ble_eq_true rfl, rfl, by decide⟩ (by omega) (P := (fun v m' => zW E (d) 150 4 [(2, 69), (0, a0), (0, a1), (9, 0)] (if v.1 = 9 then [] else v :: []) m' Q)) ?_ (fun _ _ h => h)
  generalize hQ1 : (fun v m' => zW E (d) 150 4 [(2, 69), (0, a0), (0, a1), (9, 0)] (if v.1 = 9 then [] else v :: []) m' Q) = Q1
  show zW E (d - 1) 148 0 [(0, a0)] [] m0 Q1
  refine zw_3 zr_148_0 rfl ?_
  refine zw_36 zr_148_1 ?_
  refine zw_push zr_148_2 ?_
  refine zw_push zr_148_3 ?_
  refine zw_C zr_148_6 (Or.inr rfl) zm_140 rfl rfl ⟨Nat.le_of_ble_eq_true rfl, Nat.le_of_ble_eq_true rfl, Nat.le_of_ble_eq_true rfl, rfl, by decide⟩ (by omega) (P := (fun v m' => zW E (d - 1) 148 9 [(0, a0)] (if v.1 = 9 then [] else v :: []) m' Q1)) ?_ (fun _ _ h => h)
  generalize hQ2 : (fun v m' => zW E (d - 1) 148 9 [(0, a0)] (if v.1 = 9 then [] else v :: []) m' Q1) = Q2
  show zW E (d - 1 - 1) 140 0 [(1, a0), (9, 0), (1, 0), (9, 0), (1, 3), (9, 0)] [] m0 Q2
  refine zw_5 zr_140_0 rfl ?_
  refine zw_5 zr_140_1 rfl ?_
  refine zw_39_0 zr_140_2 zr_140_3 ?_ ?_
  · intro h1
    refine zw_push zr_140_17 ?_
    refine zw_R zr_140_18 (by decide) zm_140 (v := (0, 0)) (zRetB (by omega)) ?_
    rw [← hQ2]
    show zW E (d - 1) 148 9 [(0, a0)] [(0, 0)] m0 Q1
    refine zw_R zr_148_9 (by decide) zm_148 (v := (0, 0)) (zRetB (by omega)) ?_
    rw [← hQ1]
    show zW E (d) 150 4 [(2, 69), (0, a0), (0, a1), (9, 0)] [(0, 0)] m0 Q
    refine zw_40_1 zr_150_4 ?_ ?_
    · intro h2
      refine zw_push zr_150_19 ?_
      refine zw_R zr_150_21 (by decide) zm_150 (v := (0, (-2))) rfl ?_
      rw [← hQ]; exact ⟨_, rfl, by omega, by omega, hI0, hF0⟩
    · intro h3; omega
  · intro h4
    refine zw_5 zr_140_6 rfl ?_
    refine zw_6 zr_140_7 rfl ?_
    refine zw_39_2 zr_140_9 zr_140_10 ?_ ?_
    · intro h5
      refine zw_push zr_140_17 ?_
      refine zw_R zr_140_18 (by decide) zm_140 (v := (0, 0)) (zRetB (by omega)) ?_
      rw [← hQ2]
      show zW E (d - 1) 148 9 [(0, a0)] [(0, 0)] m0 Q1
      refine zw_R zr_148_9 (by decide) zm_148 (v := (0, 0)) (zRetB (by omega)) ?_
      rw [← hQ1]
      show zW E (d) 150 4 [(2, 69), (0, a0), (0, a1), (9, 0)] [(0, 0)] m0 Q
      refine zw_40_1 zr_150_4 ?_ ?_
      · intro h6
        refine zw_push zr_150_19 ?_
        refine zw_R zr_150_21 (by decide) zm_150 (v := (0, (-2))) rfl ?_
        rw [← hQ]; exact ⟨_, rfl, by omega, by omega, hI0, hF0⟩
      · intro h7; omega
    · intro h8
      refine zw_push zr_140_13 ?_
      refine zw_42 zr_140_14 ?_
      refine zw_R zr_140_18 (by decide) zm_140 (v := (0, 1)) (zRetB (by omega)) ?_
      rw [← hQ2]
      show zW E (d - 1) 148 9 [(0, a0)] [(0, 1)] m0 Q1
      refine zw_R zr_148_9 (by decide) zm_148 (v := (0, 1)) (zRetB (by omega)) ?_
      rw [← hQ1]
      show zW E (d) 150 4 [(2, 69), (0, a0), (0, a1), (9, 0)] [(0, 1)] m0 Q
      refine zw_40_1 zr_150_4 ?_ ?_
      · intro h9; omega
      · intro h10
        refine zw_3 zr_150_7 rfl ?_
        refine zw_36 zr_150_8 ?_
        refine zw_push zr_150_9 ?_
        refine zw_push zr_150_10 ?_
        refine zw_C zr_150_13 (Or.inr rfl) zm_140 rfl rfl ⟨Nat.le_of_ble_eq_true rfl, Nat.le_of_ble_eq_true rfl, Nat.le_of_ble_eq_true rfl, rfl, by decide⟩ (by omega) (P := (fun v m' => zW E (d) 150 16 [(2, 69), (0, a0), (0, a1), (9, 0)] (if v.1 = 9 then [] else v :: []) m' Q)) ?_ (fun _ _ h => h)
        generalize hQ1 : (fun v m' => zW E (d) 150 16 [(2, 69), (0, a0), (0, a1), (9, 0)] (if v.1 = 9 then [] else v :: []) m' Q) = Q1
        show zW E (d - 1) 140 0 [(1, a1), (9, 0), (1, 0), (9, 0), (1, 127), (9, 0)] [] m0 Q1
        refine zw_5 zr_140_0 rfl ?_
        refine zw_5 zr_140_1 rfl ?_
        refine zw_39_0 zr_140_2 zr_140_3 ?_ ?_
        · intro h11
          refine zw_push zr_140_17 ?_
          refine zw_R zr_140_18 (by decide) zm_140 (v := (0, 0)) (zRetB (by omega)) ?_
          rw [← hQ1]
          show zW E (d) 150 16 [(2, 69), (0, a0), (0, a1), (9, 0)] [(0, 0)] m0 Q
          refine zw_40_4 zr_150_16 ?_ ?_
          · intro h12; omega
          · intro h13
            refine zw_push zr_150_19 ?_
            refine zw_R zr_150_21 (by decide) zm_150 (v := (0, (-2))) rfl ?_
            rw [← hQ]; exact ⟨_, rfl, by omega, by omega, hI0, hF0⟩
        · intro h14
          refine zw_5 zr_140_6 rfl ?_
          refine zw_6 zr_140_7 rfl ?_
          refine zw_39_2 zr_140_9 zr_140_10 ?_ ?_
          · intro h15
            refine zw_push zr_140_17 ?_
            refine zw_R zr_140_18 (by decide) zm_140 (v := (0, 0)) (zRetB (by omega)) ?_
            rw [← hQ1]
            show zW E (d) 150 16 [(2, 69), (0, a0), (0, a1), (9, 0)] [(0, 0)] m0 Q
            refine zw_40_4 zr_150_16 ?_ ?_
            · intro h16; omega
            · intro h17
              refine zw_push zr_150_19 ?_
              refine zw_R zr_150_21 (by decide) zm_150 (v := (0, (-2))) rfl ?_
              rw [← hQ]; exact ⟨_, rfl, by omega, by omega, hI0, hF0⟩
          · intro h18
            refine zw_push zr_140_13 ?_
            refine zw_42 zr_140_14 ?_
            refine zw_R zr_140_18 (by decide) zm_140 (v := (0, 1)) (zRetB (by omega)) ?_
            rw [← hQ1]
            show zW E (d) 150 16 [(2, 69), (0, a0), (0, a1), (9, 0)] [(0, 1)] m0 Q
            refine zw_40_4 zr_150_16 ?_ ?_
            · intro h19
              refine zw_7 zr_150_22 rfl ?_
              refine zw_46r (s := 70) zr_150_23 rfl rfl rfl rfl ?_
              refine zw_push zr_150_26 ?_
              refine zw_push zr_150_29 ?_
              refine zw_3 zr_150_31 rfl ?_
              refine zw_18 zr_150_32 (by omega) ?_
              refine zw_16 zr_150_33 (by omega) ?_
              refine zw_push zr_150_34 ?_
              refine zw_16 zr_150_35 (by omega) ?_
              refine zw_48 (c := 70) (len := 826) zr_150_36 rfl rfl (by omega) (by omega) ?_
              intro x20 ex20
              have bx20 := ib_70_s1 hI0 (k := (((450 + (52 * a0)) + 1)).toNat) (by omega)
              rw [← ex20] at bx20
              clear ex20
              refine zw_9 (L' := [(2, 69), (0, a0), (0, a1), (0, x20)]) zr_150_37 (Nat.le_of_ble_eq_true rfl) rfl ?_
              refine zw_3 zr_150_38 rfl ?_
              refine zw_push zr_150_39 ?_
              refine zw_41_4 zr_150_41 ?_ ?_
              · intro h21
                refine zw_7 zr_150_47 rfl ?_
                refine zw_46r (s := 70) zr_150_48 rfl rfl rfl rfl ?_
                refine zw_push zr_150_51 ?_
                refine zw_push zr_150_54 ?_
                refine zw_3 zr_150_56 rfl ?_
                refine zw_18 zr_150_57 (by omega) ?_
                refine zw_16 zr_150_58 (by omega) ?_
                refine zw_push zr_150_59 ?_
                refine zw_16 zr_150_60 (by omega) ?_
                refine zw_3 zr_150_61 rfl ?_
                refine zw_16 zr_150_62 (by omega) ?_
                refine zw_3 zr_150_63 rfl ?_
                refine zw_49 (c := 70) (len := 826) zr_150_64 rfl rfl (by omega) (by omega) ?_
                intro m22 em22
                have hIm22 : zInv m22 := by rw [em22]; exact iu_70_s2 hI0 (by omega) (by omega)
                have hFm22 : zFr W_150 m0 m22 := by rw [em22]; exact hF0.any rfl
                clear em22
                refine zw_7 zr_150_65 rfl ?_
                refine zw_46r (s := 70) zr_150_66 rfl rfl rfl rfl ?_
                refine zw_push zr_150_69 ?_
                refine zw_push zr_150_72 ?_
                refine zw_3 zr_150_74 rfl ?_
                refine zw_18 zr_150_75 (by omega) ?_
                refine zw_16 zr_150_76 (by omega) ?_
                refine zw_push zr_150_77 ?_
                refine zw_16 zr_150_78 (by omega) ?_
                refine zw_3 zr_150_79 rfl ?_
                refine zw_push zr_150_80 ?_
                refine zw_16 zr_150_81 (by omega) ?_
                refine zw_49 (c := 70) (len := 826) zr_150_82 rfl rfl (by omega) (by omega) ?_
                intro m23 em23
                have hIm23 : zInv m23 := by rw [em23]; exact iu_70_s1 hIm22 (by omega) (by omega)
                have hFm23 : zFr W_150 m0 m23 := by rw [em23]; exact hFm22.any rfl
                clear em23
                refine zw_3 zr_150_83 rfl ?_
                refine zw_push zr_150_84 ?_
                refine zw_16 zr_150_85 (by omega) ?_
                refine zw_R zr_150_86 (by decide) zm_150 (v := (0, (x20 + 1))) rfl ?_
                rw [← hQ]; exact ⟨_, rfl, by omega, by omega, hIm23, hFm23⟩
              · intro h24
                refine zw_push zr_150_44 ?_
                refine zw_R zr_150_46 (by decide) zm_150 (v := (0, (-4))) rfl ?_
                rw [← hQ]; exact ⟨_, rfl, by omega, by omega, hI0, hF0⟩
            · intro h25; omega

abbrev W_107 : List (Nat × Nat) := [(10, 1000)]
set_option maxHeartbeats 8000000 in
theorem th_107 {E : zE} {d : Nat} {m0 : zM} {a0 : Int} (hd : 3 ≤ d) (hI0 : zInv m0) (ha0 : (-2147483648) ≤ a0 ∧ a0 ≤ 2147483647) : zC E d 107 [(2, 0), (0, a0)] m0 (fun v m' => ∃ r : Int, v = (0, r) ∧ (-2) ≤ r ∧ r ≤ 50 ∧ zInv m' ∧ zFr W_107 m0 m') := by
  have hF0 : zFr W_107 m0 m0 := zFr.rfl
  generalize hQ : (fun (v : zV) (m' : zM) => ∃ r : Int, v = (0, r) ∧ (-2) ≤ r ∧ r ≤ 50 ∧ zInv m' ∧ zFr W_107 m0 m') = Q
  show zW E d 107 0 [(2, 0), (0, a0), (9, 0)] [] m0 Q
  refine zw_3 zr_107_0 rfl ?_
  refine zw_C zr_107_1 (Or.inr rfl) zm_104 rfl rfl ⟨Nat.le_of_ble_eq_true rfl, Nat.le_of_ble_eq_true rfl, Nat.le_of_ble_eq_true rfl, rfl, by decide⟩ (by omega) (P := (fun v m' => zW E (d) 107 4 [(2, 0), (0, a0), (9, 0)] (if v.1 = 9 then [] else v :: []) m' Q)) ?_ (fun _ _ h => h)
  generalize hQ1 : (fun v m' => zW E (d) 107 4 [(2, 0), (0, a0), (9, 0)] (if v.1 = 9 then [] else v :: []) m' Q) = Q1
  show zW E (d - 1) 104 0 [(0, a0)] [] m0 Q1
  refine zw_3 zr_104_0 rfl ?_
  refine zw_push zr_104_1 ?_
  refine zw_push zr_104_2 ?_
  refine zw_C zr_104_3 (Or.inr rfl) zm_100 rfl rfl ⟨Nat.le_of_ble_eq_true rfl, Nat.le_of_ble_eq_true rfl, Nat.le_of_ble_eq_true rfl, rfl, by decide⟩ (by omega) (P := (fun v m' => zW E (d - 1) 104 6 [(0, a0)] (if v.1 = 9 then [] else v :: []) m' Q1)) ?_ (fun _ _ h => h)
  generalize hQ2 : (fun v m' => zW E (d - 1) 104 6 [(0, a0)] (if v.1 = 9 then [] else v :: []) m' Q1) = Q2
  show zW E (d - 1 - 1) 100 0 [(0, a0), (0, 0), (0, 3)] [] m0 Q2
  refine zw_3 zr_100_0 rfl ?_
  refine zw_3 zr_100_1 rfl ?_
  refine zw_41_0 zr_100_2 ?_ ?_
  · intro h1
    refine zw_push zr_100_14 ?_
    refine zw_R zr_100_15 (by decide) zm_100 (v := (0, 0)) (zRetB (by omega)) ?_
    rw [← hQ2]
    show zW E (d - 1) 104 6 [(0, a0)] [(0, 0)] m0 Q1
    refine zw_R zr_104_6 (by decide) zm_104 (v := (0, 0)) (zRetB (by omega)) ?_
    rw [← hQ1]
    show zW E (d) 107 4 [(2, 0), (0, a0), (9, 0)] [(0, 0)] m0 Q
    refine zw_40_4 zr_107_4 ?_ ?_
    · intro h2; omega
    · intro h3
      refine zw_push zr_107_7 ?_
      refine zw_R zr_107_9 (by decide) zm_107 (v := (0, (-2))) rfl ?_
      rw [← hQ]; exact ⟨_, rfl, by omega, by omega, hI0, hF0⟩
  · intro h4
    refine zw_3 zr_100_5 rfl ?_
    refine zw_3 zr_100_6 rfl ?_
    refine zw_41_2 zr_100_7 ?_ ?_
    · intro h5
      refine zw_push zr_100_14 ?_
      refine zw_R zr_100_15 (by decide) zm_100 (v := (0, 0)) (zRetB (by omega)) ?_
      rw [← hQ2]
      show zW E (d - 1) 104 6 [(0, a0)] [(0, 0)] m0 Q1
      refine zw_R zr_104_6 (by decide) zm_104 (v := (0, 0)) (zRetB (by omega)) ?_
      rw [← hQ1]
      show zW E (d) 107 4 [(2, 0), (0, a0), (9, 0)] [(0, 0)] m0 Q
      refine zw_40_4 zr_107_4 ?_ ?_
      · intro h6; omega
      · intro h7
        refine zw_push zr_107_7 ?_
        refine zw_R zr_107_9 (by decide) zm_107 (v := (0, (-2))) rfl ?_
        rw [← hQ]; exact ⟨_, rfl, by omega, by omega, hI0, hF0⟩
    · intro h8
      refine zw_push zr_100_10 ?_
      refine zw_42 zr_100_11 ?_
      refine zw_R zr_100_15 (by decide) zm_100 (v := (0, 1)) (zRetB (by omega)) ?_
      rw [← hQ2]
      show zW E (d - 1) 104 6 [(0, a0)] [(0, 1)] m0 Q1
      refine zw_R zr_104_6 (by decide) zm_104 (v := (0, 1)) (zRetB (by omega)) ?_
      rw [← hQ1]
      show zW E (d) 107 4 [(2, 0), (0, a0), (9, 0)] [(0, 1)] m0 Q
      refine zw_40_4 zr_107_4 ?_ ?_
      · intro h9
        refine zw_7 zr_107_10 rfl ?_
        refine zw_46r (s := 1) zr_107_11 rfl rfl rfl rfl ?_
        refine zw_46r (s := 10) zr_107_14 rfl rfl rfl rfl ?_
        refine zw_3 zr_107_17 rfl ?_
        refine zw_48 (c := 10) (len := 4) zr_107_18 rfl rfl (by omega) (by omega) ?_
        intro x10 ex10
        have bx10 := ib_10 hI0 (k := (a0).toNat) (by omega)
        rw [← ex10] at bx10
        clear ex10
        refine zw_9 (L' := [(2, 0), (0, a0), (0, x10)]) zr_107_19 (Nat.le_of_ble_eq_true rfl) rfl ?_
        refine zw_7 zr_107_20 rfl ?_
        refine zw_46r (s := 1) zr_107_21 rfl rfl rfl rfl ?_
        refine zw_46r (s := 10) zr_107_24 rfl rfl rfl rfl ?_
        refine zw_3 zr_107_27 rfl ?_
        refine zw_push zr_107_28 ?_
        refine zw_49 (c := 10) (len := 4) zr_107_29 rfl rfl (by omega) (by omega) ?_
        intro m11 em11
        have hIm11 : zInv m11 := by rw [em11]; exact iu_10 hI0 (by omega)
        have hFm11 : zFr W_107 m0 m11 := by rw [em11]; exact hF0.any rfl
        clear em11
        refine zw_3 zr_107_30 rfl ?_
        refine zw_R zr_107_31 (by decide) zm_107 (v := (0, x10)) rfl ?_
        rw [← hQ]; exact ⟨_, rfl, by omega, by omega, hIm11, hFm11⟩
      · intro h12; omega

abbrev W_151 : List (Nat × Nat) := [(70, 1000)]
set_option maxHeartbeats 8000000 in
theorem th_151 {E : zE} {d : Nat} {m0 : zM} {a0 : Int} (hd : 3 ≤ d) (hI0 : zInv m0) (ha0 : (-2147483648) ≤ a0 ∧ a0 ≤ 2147483647) : zC E d 151 [(2, 69), (0, a0)] m0 (fun v m' => ∃ r : Int, v = (0, r) ∧ (-2) ≤ r ∧ r ≤ 50 ∧ zInv m' ∧ zFr W_151 m0 m') := by
  have hF0 : zFr W_151 m0 m0 := zFr.rfl
  generalize hQ : (fun (v : zV) (m' : zM) => ∃ r : Int, v = (0, r) ∧ (-2) ≤ r ∧ r ≤ 50 ∧ zInv m' ∧ zFr W_151 m0 m') = Q
  show zW E d 151 0 [(2, 69), (0, a0), (9, 0)] [] m0 Q
  refine zw_3 zr_151_0 rfl ?_
  refine zw_C zr_151_1 (Or.inr rfl) zm_148 rfl rfl ⟨Nat.le_of_ble_eq_true rfl, Nat.le_of_ble_eq_true rfl, Nat.le_of_ble_eq_true rfl, rfl, by decide⟩ (by omega) (P := (fun v m' => zW E (d) 151 4 [(2, 69), (0, a0), (9, 0)] (if v.1 = 9 then [] else v :: []) m' Q)) ?_ (fun _ _ h => h)
  generalize hQ1 : (fun v m' => zW E (d) 151 4 [(2, 69), (0, a0), (9, 0)] (if v.1 = 9 then [] else v :: []) m' Q) = Q1
  show zW E (d - 1) 148 0 [(0, a0)] [] m0 Q1
  refine zw_3 zr_148_0 rfl ?_
  refine zw_36 zr_148_1 ?_
  refine zw_push zr_148_2 ?_
  refine zw_push zr_148_3 ?_
  refine zw_C zr_148_6 (Or.inr rfl) zm_140 rfl rfl ⟨Nat.le_of_ble_eq_true rfl, Nat.le_of_ble_eq_true rfl, Nat.le_of_ble_eq_true rfl, rfl, by decide⟩ (by omega) (P := (fun v m' => zW E (d - 1) 148 9 [(0, a0)] (if v.1 = 9 then [] else v :: []) m' Q1)) ?_ (fun _ _ h => h)
  generalize hQ2 : (fun v m' => zW E (d - 1) 148 9 [(0, a0)] (if v.1 = 9 then [] else v :: []) m' Q1) = Q2
  show zW E (d - 1 - 1) 140 0 [(1, a0), (9, 0), (1, 0), (9, 0), (1, 3), (9, 0)] [] m0 Q2
  refine zw_5 zr_140_0 rfl ?_
  refine zw_5 zr_140_1 rfl ?_
  refine zw_39_0 zr_140_2 zr_140_3 ?_ ?_
  · intro h1
    refine zw_push zr_140_17 ?_
    refine zw_R zr_140_18 (by decide) zm_140 (v := (0, 0)) (zRetB (by omega)) ?_
    rw [← hQ2]
    show zW E (d - 1) 148 9 [(0, a0)] [(0, 0)] m0 Q1
    refine zw_R zr_148_9 (by decide) zm_148 (v := (0, 0)) (zRetB (by omega)) ?_
    rw [← hQ1]
    show zW E (d) 151 4 [(2, 69), (0, a0), (9, 0)] [(0, 0)] m0 Q
    refine zw_40_4 zr_151_4 ?_ ?_
    · intro h2; omega
    · intro h3
      refine zw_push zr_151_7 ?_
      refine zw_R zr_151_9 (by decide) zm_151 (v := (0, (-2))) rfl ?_
      rw [← hQ]; exact ⟨_, rfl, by omega, by omega, hI0, hF0⟩
  · intro h4
    refine zw_5 zr_140_6 rfl ?_
    refine zw_6 zr_140_7 rfl ?_
    refine zw_39_2 zr_140_9 zr_140_10 ?_ ?_
    · intro h5
      refine zw_push zr_140_17 ?_
      refine zw_R zr_140_18 (by decide) zm_140 (v := (0, 0)) (zRetB (by omega)) ?_
      rw [← hQ2]
      show zW E (d - 1) 148 9 [(0, a0)] [(0, 0)] m0 Q1
      refine zw_R zr_148_9 (by decide) zm_148 (v := (0, 0)) (zRetB (by omega)) ?_
      rw [← hQ1]
      show zW E (d) 151 4 [(2, 69), (0, a0), (9, 0)] [(0, 0)] m0 Q
      refine zw_40_4 zr_151_4 ?_ ?_
      · intro h6; omega
      · intro h7
        refine zw_push zr_151_7 ?_
        refine zw_R zr_151_9 (by decide) zm_151 (v := (0, (-2))) rfl ?_
        rw [← hQ]; exact ⟨_, rfl, by omega, by omega, hI0, hF0⟩
    · intro h8
      refine zw_push zr_140_13 ?_
      refine zw_42 zr_140_14 ?_
      refine zw_R zr_140_18 (by decide) zm_140 (v := (0, 1)) (zRetB (by omega)) ?_
      rw [← hQ2]
      show zW E (d - 1) 148 9 [(0, a0)] [(0, 1)] m0 Q1
      refine zw_R zr_148_9 (by decide) zm_148 (v := (0, 1)) (zRetB (by omega)) ?_
      rw [← hQ1]
      show zW E (d) 151 4 [(2, 69), (0, a0), (9, 0)] [(0, 1)] m0 Q
      refine zw_40_4 zr_151_4 ?_ ?_
      · intro h9
        refine zw_7 zr_151_10 rfl ?_
        refine zw_46r (s := 70) zr_151_11 rfl rfl rfl rfl ?_
        refine zw_push zr_151_14 ?_
        refine zw_push zr_151_17 ?_
        refine zw_3 zr_151_19 rfl ?_
        refine zw_18 zr_151_20 (by omega) ?_
        refine zw_16 zr_151_21 (by omega) ?_
        refine zw_push zr_151_22 ?_
        refine zw_16 zr_151_23 (by omega) ?_
        refine zw_48 (c := 70) (len := 826) zr_151_24 rfl rfl (by omega) (by omega) ?_
        intro x10 ex10
        have bx10 := ib_70_s1 hI0 (k := (((450 + (52 * a0)) + 1)).toNat) (by omega)
        rw [← ex10] at bx10
        clear ex10
        refine zw_9 (L' := [(2, 69), (0, a0), (0, x10)]) zr_151_25 (Nat.le_of_ble_eq_true rfl) rfl ?_
        refine zw_7 zr_151_26 rfl ?_
        refine zw_46r (s := 70) zr_151_27 rfl rfl rfl rfl ?_
        refine zw_push zr_151_30 ?_
        refine zw_push zr_151_33 ?_
        refine zw_3 zr_151_35 rfl ?_
        refine zw_18 zr_151_36 (by omega) ?_
        refine zw_16 zr_151_37 (by omega) ?_
        refine zw_push zr_151_38 ?_
        refine zw_16 zr_151_39 (by omega) ?_
        refine zw_push zr_151_40 ?_
        refine zw_49 (c := 70) (len := 826) zr_151_41 rfl rfl (by omega) (by omega) ?_
        intro m11 em11
        have hIm11 : zInv m11 := by rw [em11]; exact iu_70_s1 hI0 (by omega) (by omega)
        have hFm11 : zFr W_151 m0 m11 := by rw [em11]; exact hF0.any rfl
        clear em11
        refine zw_3 zr_151_42 rfl ?_
        refine zw_R zr_151_43 (by decide) zm_151 (v := (0, x10)) rfl ?_
        rw [← hQ]; exact ⟨_, rfl, by omega, by omega, hIm11, hFm11⟩
      · intro h12; omega

abbrev W_6 : List (Nat × Nat) := [(45, 6)]
set_option maxHeartbeats 8000000 in
theorem th_6 {E : zE} {d : Nat} {m0 : zM} (hd : 1 ≤ d) (hI0 : zInv m0) : zC E d 6 [(2, 45)] m0 (fun v m' => ∃ r : Int, v = (0, r) ∧ (-1) ≤ r ∧ r ≤ 127 ∧ zInv m' ∧ zFr W_6 m0 m' ∧ (r = -1 ∨ m' 45 6 ≤ 49)) := by
  have hF0 : zFr W_6 m0 m0 := zFr.rfl
  generalize hQ : (fun (v : zV) (m' : zM) => ∃ r : Int, v = (0, r) ∧ (-1) ≤ r ∧ r ≤ 127 ∧ zInv m' ∧ zFr W_6 m0 m' ∧ (r = -1 ∨ m' 45 6 ≤ 49)) = Q
  show zW E d 6 0 [(2, 45)] [] m0 Q
  refine zw_7 zr_6_0 rfl ?_
  obtain ⟨f1, ef1⟩ : ∃ v, m0 45 1 = v := ⟨_, rfl⟩
  have bf1 := hI0.fi (c := 45) (k := 1) rfl
  rw [ef1] at bf1
  refine zw_46i zr_6_1 ef1 rfl rfl rfl ?_
  refine zw_push zr_6_4 ?_
  refine zw_41_1 zr_6_5 ?_ ?_
  · intro h2
    obtain ⟨f5, ef5⟩ : ∃ v, m0 45 6 = v := ⟨_, rfl⟩
    have bf5 := ib_45_6 hI0
    rw [ef5] at bf5
    have lp10_6 : ∀ (nlp10_6 : Nat) (p4 : Int) (m3 : zM), zInv m3 → zFr W_6 m0 m3 → m3 45 1 = f1 → m3 45 6 = p4 → 0 ≤ p4 → p4 ≤ 50 → (50 - p4).toNat < nlp10_6 → zW E (d) 6 10 [(2, 45)] [] m3 Q := by
      intro nlp10_6
      induction nlp10_6 with
      | zero =>
        intros
        exact absurd (by assumption : _ < 0) (Nat.not_lt_zero _)
      | succ nlp10_6 ihlp10_6 =>
        intro p4 m3 hIm3 hFm3 km3_45_1 km3_45_6 lp4 up4 hmlp10_6
        refine zw_7 zr_6_10 rfl ?_
        refine zw_46i zr_6_11 km3_45_6 rfl rfl rfl ?_
        refine zw_7 zr_6_14 rfl ?_
        obtain ⟨f8, ef8⟩ : ∃ v, m3 45 5 = v := ⟨_, rfl⟩
        have bf8 := ib_45_5 hIm3
        rw [ef8] at bf8
        refine zw_46i zr_6_15 ef8 rfl rfl rfl ?_
        refine zw_41_3 zr_6_18 ?_ ?_
        · intro h9
          refine zw_7 zr_6_48 rfl ?_
          refine zw_46i zr_6_49 km3_45_6 rfl rfl rfl ?_
          refine zw_7 zr_6_52 rfl ?_
          refine zw_46i zr_6_53 ef8 rfl rfl rfl ?_
          refine zw_41_3 zr_6_56 ?_ ?_
          · intro h10
            refine zw_push zr_6_71 ?_
            refine zw_R zr_6_72 (by decide) zm_6 (v := (0, (-1))) rfl ?_
            rw [← hQ]; exact ⟨_, rfl, by omega, by omega, hIm3, hFm3, by omega⟩
          · intro h11
            refine zw_7 zr_6_59 rfl ?_
            refine zw_46r (s := 47) zr_6_60 rfl rfl rfl rfl ?_
            refine zw_7 zr_6_63 rfl ?_
            refine zw_46i zr_6_64 km3_45_6 rfl rfl rfl ?_
            refine zw_48 (c := 47) (len := 50) zr_6_67 rfl rfl (by omega) (by omega) ?_
            intro x12 ex12
            have bx12 := ib_47 hIm3 (k := (p4).toNat) (by omega)
            rw [← ex12] at bx12
            clear ex12
            refine zw_42 zr_6_68 ?_
            refine zw_R zr_6_72 (by decide) zm_6 (v := (0, x12)) rfl ?_
            rw [← hQ]; exact ⟨_, rfl, by omega, by omega, hIm3, hFm3, by omega⟩
        · intro h13
          refine zw_7 zr_6_21 rfl ?_
          refine zw_46r (s := 47) zr_6_22 rfl rfl rfl rfl ?_
          refine zw_7 zr_6_25 rfl ?_
          refine zw_46i zr_6_26 km3_45_6 rfl rfl rfl ?_
          refine zw_48 (c := 47) (len := 50) zr_6_29 rfl rfl (by omega) (by omega) ?_
          intro x14 ex14
          have bx14 := ib_47 hIm3 (k := (p4).toNat) (by omega)
          rw [← ex14] at bx14
          refine zw_push zr_6_30 ?_
          refine zw_41_4 zr_6_32 ?_ ?_
          · intro h15
            refine zw_7 zr_6_48 rfl ?_
            refine zw_46i zr_6_49 km3_45_6 rfl rfl rfl ?_
            refine zw_7 zr_6_52 rfl ?_
            refine zw_46i zr_6_53 ef8 rfl rfl rfl ?_
            refine zw_41_3 zr_6_56 ?_ ?_
            · intro h16
              refine zw_push zr_6_71 ?_
              refine zw_R zr_6_72 (by decide) zm_6 (v := (0, (-1))) rfl ?_
              rw [← hQ]; exact ⟨_, rfl, by omega, by omega, hIm3, hFm3, by omega⟩
            · intro h17
              refine zw_7 zr_6_59 rfl ?_
              refine zw_46r (s := 47) zr_6_60 rfl rfl rfl rfl ?_
              refine zw_7 zr_6_63 rfl ?_
              refine zw_46i zr_6_64 km3_45_6 rfl rfl rfl ?_
              refine zw_48k (c := 47) (len := 50) zr_6_67 rfl rfl (by omega) (by omega) rfl ex14.symm ?_
              refine zw_42 zr_6_68 ?_
              refine zw_R zr_6_72 (by decide) zm_6 (v := (0, x14)) rfl ?_
              rw [← hQ]; exact ⟨_, rfl, by omega, by omega, hIm3, hFm3, by omega⟩
          · intro h18
            refine zw_7 zr_6_35 rfl ?_
            refine zw_43 zr_6_36 rfl ?_
            refine zw_46i zr_6_37 km3_45_6 rfl rfl rfl ?_
            refine zw_push zr_6_40 ?_
            refine zw_16 zr_6_41 (by omega) ?_
            refine zw_47 (c := 45) zr_6_42 rfl ⟨rfl, by decide, rfl⟩ ?_
            intro m19 em19
            have hIm19 : zInv m19 := by rw [em19]; exact hIm3.bd (r := 45) (k := 6) (lo := 0) (hi := 50) rfl (by omega) (by decide) (by decide) (by decide)
            have hFm19 : zFr W_6 m0 m19 := by rw [em19]; exact hFm3.up rfl
            have km19_45_1 : m19 45 1 = f1 := by rw [em19, zUp_ne (by omega)]; exact km3_45_1
            have km19_45_5 : m19 45 5 = f8 := by rw [em19, zUp_ne (by omega)]; exact ef8
            have km19_45_6 : m19 45 6 = (p4 + 1) := by rw [em19]; exact zUp_eq _ _ _ _
            clear em19
            refine zw_42 zr_6_45 ?_
            exact zw_less (L := [(2, 45)]) ⟨Or.inr rfl, trivial⟩ (ihlp10_6 ((p4 + 1)) m19 hIm19 hFm19  km19_45_1 km19_45_6 (by omega) (by omega) (by omega))
    exact lp10_6 _ (f5) m0 hI0 hF0  ef1 ef5 (by omega) (by omega) (Nat.lt_succ_self _)
  · intro h20
    refine zw_push zr_6_8 ?_
    refine zw_R zr_6_9 (by decide) zm_6 (v := (0, (-1))) rfl ?_
    rw [← hQ]; exact ⟨_, rfl, by omega, by omega, hI0, hF0, by omega⟩

abbrev W_11 : List (Nat × Nat) := [(45, 8), (48, 1000)]
set_option maxHeartbeats 8000000 in
theorem th_11 {E : zE} {d : Nat} {m0 : zM} {a0 : Int} {a1 : Int} (hd : 2 ≤ d) (hI0 : zInv m0) (ha0 : 0 ≤ a0 ∧ a0 ≤ 50) (ha1 : 0 ≤ a1 ∧ a1 ≤ 50) : zC E d 11 [(2, 45), (0, a0), (0, a1)] m0 (fun v m' => v = (9, 0) ∧ zInv m' ∧ zFr W_11 m0 m') := by
  have hF0 : zFr W_11 m0 m0 := zFr.rfl
  generalize hQ : (fun (v : zV) (m' : zM) => v = (9, 0) ∧ zInv m' ∧ zFr W_11 m0 m') = Q
  show zW E d 11 0 [(2, 45), (0, a0), (0, a1), (9, 0)] [] m0 Q
  refine zw_3 zr_11_0 rfl ?_
  refine zw_push zr_11_1 ?_
  refine zw_17 zr_11_2 (by omega) ?_
  refine zw_9 (L' := [(2, 45), (0, a0), (0, a1), (0, (a1 - 1))]) zr_11_3 (Nat.le_of_ble_eq_true rfl) rfl ?_
  have lp4_3 : ∀ (nlp4_3 : Nat) (i1 : Int) (m2 : zM), zInv m2 → zFr W_11 m0 m2 → (-1) ≤ i1 → i1 ≤ 49 → (i1 - (-1)).toNat < nlp4_3 → zW E (d) 11 4 [(2, 45), (0, a0), (0, a1), (0, i1)] [] m2 Q := by
    intro nlp4_3
    induction nlp4_3 with
    | zero =>
      intros
      exact absurd (by assumption : _ < 0) (Nat.not_lt_zero _)
    | succ nlp4_3 ihlp4_3 =>
      intro i1 m2 hIm2 hFm2 li1 ui1 hmlp4_3
      refine zw_3 zr_11_4 rfl ?_
      refine zw_3 zr_11_5 rfl ?_
      refine zw_41_0 zr_11_6 ?_ ?_
      · intro h5
        refine zw_R zr_11_52 (by decide) zm_11 (v := (9, 0)) rfl ?_
        rw [← hQ]; exact ⟨rfl, hIm2, hFm2⟩
      · intro h6
        refine zw_7 zr_11_9 rfl ?_
        refine zw_46r (s := 47) zr_11_10 rfl rfl rfl rfl ?_
        refine zw_3 zr_11_13 rfl ?_
        refine zw_48 (c := 47) (len := 50) zr_11_14 rfl rfl (by omega) (by omega) ?_
        intro x7 ex7
        have bx7 := ib_47 hIm2 (k := (i1).toNat) (by omega)
        rw [← ex7] at bx7
        refine zw_push zr_11_15 ?_
        refine zw_41_4 zr_11_17 ?_ ?_
        · intro h8
          refine zw_7 zr_11_29 rfl ?_
          refine zw_46r (s := 47) zr_11_30 rfl rfl rfl rfl ?_
          refine zw_3 zr_11_33 rfl ?_
          refine zw_48k (c := 47) (len := 50) zr_11_34 rfl rfl (by omega) (by omega) rfl ex7.symm ?_
          refine zw_push zr_11_35 ?_
          refine zw_41_4 zr_11_37 ?_ ?_
          · intro h9
            refine zw_15 (c := (-1)) (L' := [(2, 45), (0, a0), (0, a1), (0, (i1 + (-1)))]) zr_11_46 rfl (by decide) (by omega) rfl ?_
            refine zw_42 zr_11_49 ?_
            exact zw_less (L := [(2, 45), (0, a0), (0, a1), (0, (i1 + (-1)))]) ⟨Or.inr rfl, Or.inr rfl, Or.inr rfl, Or.inr rfl, trivial⟩ (ihlp4_3 ((i1 + (-1))) m2 hIm2 hFm2   (by omega) (by omega) (by omega))
          · intro h10
            refine zw_7 zr_11_40 rfl ?_
            refine zw_push zr_11_41 ?_
            refine zw_C zr_11_43 (Or.inl rfl) zm_8 rfl rfl ⟨Nat.le_of_ble_eq_true rfl, Nat.le_of_ble_eq_true rfl, Nat.le_of_ble_eq_true rfl, rfl, by decide⟩ (by omega) (P := (fun v m' => zW E (d) 11 46 [(2, 45), (0, a0), (0, a1), (0, i1)] (if v.1 = 9 then [] else v :: []) m' Q)) ?_ (fun _ _ h => h)
            generalize hQ1 : (fun v m' => zW E (d) 11 46 [(2, 45), (0, a0), (0, a1), (0, i1)] (if v.1 = 9 then [] else v :: []) m' Q) = Q1
            show zW E (d - 1) 8 0 [(2, 45), (0, (-126))] [] m2 Q1
            refine zw_7 zr_8_0 rfl ?_
            obtain ⟨f11, ef11⟩ : ∃ v, m2 45 8 = v := ⟨_, rfl⟩
            have bf11 := ib_45_8 hIm2
            rw [ef11] at bf11
            refine zw_46i zr_8_1 ef11 rfl rfl rfl ?_
            refine zw_push zr_8_4 ?_
            refine zw_41_3 zr_8_6 ?_ ?_
            · intro h12
              refine zw_R zr_8_29 (by decide) zm_8 (v := (9, 0)) rfl ?_
              rw [← hQ1]
              show zW E (d) 11 46 [(2, 45), (0, a0), (0, a1), (0, i1)] [] m2 Q
              refine zw_15 (c := (-1)) (L' := [(2, 45), (0, a0), (0, a1), (0, (i1 + (-1)))]) zr_11_46 rfl (by decide) (by omega) rfl ?_
              refine zw_42 zr_11_49 ?_
              exact zw_less (L := [(2, 45), (0, a0), (0, a1), (0, (i1 + (-1)))]) ⟨Or.inr rfl, Or.inr rfl, Or.inr rfl, Or.inr rfl, trivial⟩ (ihlp4_3 ((i1 + (-1))) m2 hIm2 hFm2   (by omega) (by omega) (by omega))
            · intro h13
              refine zw_7 zr_8_9 rfl ?_
              refine zw_46r (s := 48) zr_8_10 rfl rfl rfl rfl ?_
              refine zw_7 zr_8_13 rfl ?_
              refine zw_46i zr_8_14 ef11 rfl rfl rfl ?_
              refine zw_3 zr_8_17 rfl ?_
              refine zw_49 (c := 48) (len := 50) zr_8_18 rfl rfl (by omega) (by omega) ?_
              intro m14 em14
              have hIm14 : zInv m14 := by rw [em14]; exact hIm2.any (by omega) rfl (by decide) (by decide)
              have hFm14 : zFr W_11 m0 m14 := by rw [em14]; exact hFm2.any rfl
              have km14_45_8 : m14 45 8 = f11 := by rw [em14, zUp_ne (by omega)]; exact ef11
              clear em14
              refine zw_7 zr_8_19 rfl ?_
              refine zw_43 zr_8_20 rfl ?_
              refine zw_46i zr_8_21 km14_45_8 rfl rfl rfl ?_
              refine zw_push zr_8_24 ?_
              refine zw_16 zr_8_25 (by omega) ?_
              refine zw_47 (c := 45) zr_8_26 rfl ⟨rfl, by decide, rfl⟩ ?_
              intro m15 em15
              have hIm15 : zInv m15 := by rw [em15]; exact hIm14.bd (r := 45) (k := 8) (lo := 0) (hi := 50) rfl (by omega) (by decide) (by decide) (by decide)
              have hFm15 : zFr W_11 m0 m15 := by rw [em15]; exact hFm14.up rfl
              have km15_45_8 : m15 45 8 = (f11 + 1) := by rw [em15]; exact zUp_eq _ _ _ _
              clear em15
              refine zw_R zr_8_29 (by decide) zm_8 (v := (9, 0)) rfl ?_
              rw [← hQ1]
              show zW E (d) 11 46 [(2, 45), (0, a0), (0, a1), (0, i1)] [] m15 Q
              refine zw_15 (c := (-1)) (L' := [(2, 45), (0, a0), (0, a1), (0, (i1 + (-1)))]) zr_11_46 rfl (by decide) (by omega) rfl ?_
              refine zw_42 zr_11_49 ?_
              exact zw_less (L := [(2, 45), (0, a0), (0, a1), (0, (i1 + (-1)))]) ⟨Or.inr rfl, Or.inr rfl, Or.inr rfl, Or.inr rfl, trivial⟩ (ihlp4_3 ((i1 + (-1))) m15 hIm15 hFm15   (by omega) (by omega) (by omega))
        · intro h16
          refine zw_7 zr_11_20 rfl ?_
          refine zw_push zr_11_21 ?_
          refine zw_C zr_11_23 (Or.inl rfl) zm_8 rfl rfl ⟨Nat.le_of_ble_eq_true rfl, Nat.le_of_ble_eq_true rfl, Nat.le_of_ble_eq_true rfl, rfl, by decide⟩ (by omega) (P := (fun v m' => zW E (d) 11 26 [(2, 45), (0, a0), (0, a1), (0, i1)] (if v.1 = 9 then [] else v :: []) m' Q)) ?_ (fun _ _ h => h)
          generalize hQ1 : (fun v m' => zW E (d) 11 26 [(2, 45), (0, a0), (0, a1), (0, i1)] (if v.1 = 9 then [] else v :: []) m' Q) = Q1
          show zW E (d - 1) 8 0 [(2, 45), (0, (-33))] [] m2 Q1
          refine zw_7 zr_8_0 rfl ?_
          obtain ⟨f17, ef17⟩ : ∃ v, m2 45 8 = v := ⟨_, rfl⟩
          have bf17 := ib_45_8 hIm2
          rw [ef17] at bf17
          refine zw_46i zr_8_1 ef17 rfl rfl rfl ?_
          refine zw_push zr_8_4 ?_
          refine zw_41_3 zr_8_6 ?_ ?_
          · intro h18
            refine zw_R zr_8_29 (by decide) zm_8 (v := (9, 0)) rfl ?_
            rw [← hQ1]
            show zW E (d) 11 26 [(2, 45), (0, a0), (0, a1), (0, i1)] [] m2 Q
            refine zw_42 zr_11_26 ?_
            refine zw_15 (c := (-1)) (L' := [(2, 45), (0, a0), (0, a1), (0, (i1 + (-1)))]) zr_11_46 rfl (by decide) (by omega) rfl ?_
            refine zw_42 zr_11_49 ?_
            exact zw_less (L := [(2, 45), (0, a0), (0, a1), (0, (i1 + (-1)))]) ⟨Or.inr rfl, Or.inr rfl, Or.inr rfl, Or.inr rfl, trivial⟩ (ihlp4_3 ((i1 + (-1))) m2 hIm2 hFm2   (by omega) (by omega) (by omega))
          · intro h19
            refine zw_7 zr_8_9 rfl ?_
            refine zw_46r (s := 48) zr_8_10 rfl rfl rfl rfl ?_
            refine zw_7 zr_8_13 rfl ?_
            refine zw_46i zr_8_14 ef17 rfl rfl rfl ?_
            refine zw_3 zr_8_17 rfl ?_
            refine zw_49 (c := 48) (len := 50) zr_8_18 rfl rfl (by omega) (by omega) ?_
            intro m20 em20
            have hIm20 : zInv m20 := by rw [em20]; exact hIm2.any (by omega) rfl (by decide) (by decide)
            have hFm20 : zFr W_11 m0 m20 := by rw [em20]; exact hFm2.any rfl
            have km20_45_8 : m20 45 8 = f17 := by rw [em20, zUp_ne (by omega)]; exact ef17
            clear em20
            refine zw_7 zr_8_19 rfl ?_
            refine zw_43 zr_8_20 rfl ?_
            refine zw_46i zr_8_21 km20_45_8 rfl rfl rfl ?_
            refine zw_push zr_8_24 ?_
            refine zw_16 zr_8_25 (by omega) ?_
            refine zw_47 (c := 45) zr_8_26 rfl ⟨rfl, by decide, rfl⟩ ?_
            intro m21 em21
            have hIm21 : zInv m21 := by rw [em21]; exact hIm20.bd (r := 45) (k := 8) (lo := 0) (hi := 50) rfl (by omega) (by decide) (by decide) (by decide)
            have hFm21 : zFr W_11 m0 m21 := by rw [em21]; exact hFm20.up rfl
            have km21_45_8 : m21 45 8 = (f17 + 1) := by rw [em21]; exact zUp_eq _ _ _ _
            clear em21
            refine zw_R zr_8_29 (by decide) zm_8 (v := (9, 0)) rfl ?_
            rw [← hQ1]
            show zW E (d) 11 26 [(2, 45), (0, a0), (0, a1), (0, i1)] [] m21 Q
            refine zw_42 zr_11_26 ?_
            refine zw_15 (c := (-1)) (L' := [(2, 45), (0, a0), (0, a1), (0, (i1 + (-1)))]) zr_11_46 rfl (by decide) (by omega) rfl ?_
            refine zw_42 zr_11_49 ?_
            exact zw_less (L := [(2, 45), (0, a0), (0, a1), (0, (i1 + (-1)))]) ⟨Or.inr rfl, Or.inr rfl, Or.inr rfl, Or.inr rfl, trivial⟩ (ihlp4_3 ((i1 + (-1))) m21 hIm21 hFm21   (by omega) (by omega) (by omega))
  exact lp4_3 _ ((a1 - 1)) m0 hI0 hF0   (by omega) (by omega) (Nat.lt_succ_self _)

abbrev W_9 : List (Nat × Nat) := [(45, 1), (45, 6), (45, 8), (48, 1000)]
set_option maxHeartbeats 8000000 in
theorem th_9 {E : zE} {d : Nat} {m0 : zM} (hd : 2 ≤ d) (hI0 : zInv m0) : zC E d 9 [(2, 45)] m0 (fun v m' => v = (9, 0) ∧ zInv m' ∧ zFr W_9 m0 m') := by
  have hF0 : zFr W_9 m0 m0 := zFr.rfl
  generalize hQ : (fun (v : zV) (m' : zM) => v = (9, 0) ∧ zInv m' ∧ zFr W_9 m0 m') = Q
  show zW E d 9 0 [(2, 45), (9, 0), (9, 0)] [] m0 Q
  refine zw_7 zr_9_0 rfl ?_
  obtain ⟨f1, ef1⟩ : ∃ v, m0 45 6 = v := ⟨_, rfl⟩
  have bf1 := ib_45_6 hI0
  rw [ef1] at bf1
  refine zw_46i zr_9_1 ef1 rfl rfl rfl ?_
  refine zw_9 (L' := [(2, 45), (0, f1), (9, 0)]) zr_9_4 (Nat.le_of_ble_eq_true rfl) rfl ?_
  refine zw_push zr_9_5 ?_
  refine zw_9 (L' := [(2, 45), (0, f1), (0, 0)]) zr_9_6 (Nat.le_of_ble_eq_true rfl) rfl ?_
  have lp7_5 : ∀ (nlp7_5 : Nat) (i2 p4 : Int) (m3 : zM), zInv m3 → zFr W_9 m0 m3 → m3 45 6 = p4 → (-2147483648) ≤ i2 → i2 ≤ 2147483647 → 0 ≤ p4 → p4 ≤ 50 → (50 - p4).toNat < nlp7_5 → zW E (d) 9 7 [(2, 45), (0, f1), (0, i2)] [] m3 Q := by
    intro nlp7_5
    induction nlp7_5 with
    | zero =>
      intros
      exact absurd (by assumption : _ < 0) (Nat.not_lt_zero _)
    | succ nlp7_5 ihlp7_5 =>
      intro i2 p4 m3 hIm3 hFm3 km3_45_6 li2 ui2 lp4 up4 hmlp7_5
      refine zw_7 zr_9_7 rfl ?_
      refine zw_46i zr_9_8 km3_45_6 rfl rfl rfl ?_
      refine zw_7 zr_9_11 rfl ?_
      obtain ⟨f7, ef7⟩ : ∃ v, m3 45 5 = v := ⟨_, rfl⟩
      have bf7 := ib_45_5 hIm3
      rw [ef7] at bf7
      refine zw_46i zr_9_12 ef7 rfl rfl rfl ?_
      refine zw_41_3 zr_9_15 ?_ ?_
      · intro h8
        refine zw_7 zr_9_99 rfl ?_
        refine zw_3 zr_9_100 rfl ?_
        refine zw_C zr_9_101 (Or.inl rfl) zm_8 rfl rfl ⟨Nat.le_of_ble_eq_true rfl, Nat.le_of_ble_eq_true rfl, Nat.le_of_ble_eq_true rfl, rfl, by decide⟩ (by omega) (P := (fun v m' => zW E (d) 9 104 [(2, 45), (0, f1), (0, i2)] (if v.1 = 9 then [] else v :: []) m' Q)) ?_ (fun _ _ h => h)
        generalize hQ1 : (fun v m' => zW E (d) 9 104 [(2, 45), (0, f1), (0, i2)] (if v.1 = 9 then [] else v :: []) m' Q) = Q1
        show zW E (d - 1) 8 0 [(2, 45), (0, i2)] [] m3 Q1
        refine zw_7 zr_8_0 rfl ?_
        obtain ⟨f9, ef9⟩ : ∃ v, m3 45 8 = v := ⟨_, rfl⟩
        have bf9 := ib_45_8 hIm3
        rw [ef9] at bf9
        refine zw_46i zr_8_1 ef9 rfl rfl rfl ?_
        refine zw_push zr_8_4 ?_
        refine zw_41_3 zr_8_6 ?_ ?_
        · intro h10
          refine zw_R zr_8_29 (by decide) zm_8 (v := (9, 0)) rfl ?_
          rw [← hQ1]
          show zW E (d) 9 104 [(2, 45), (0, f1), (0, i2)] [] m3 Q
          refine zw_R zr_9_104 (by decide) zm_9 (v := (9, 0)) rfl ?_
          rw [← hQ]; exact ⟨rfl, hIm3, hFm3⟩
        · intro h11
          refine zw_7 zr_8_9 rfl ?_
          refine zw_46r (s := 48) zr_8_10 rfl rfl rfl rfl ?_
          refine zw_7 zr_8_13 rfl ?_
          refine zw_46i zr_8_14 ef9 rfl rfl rfl ?_
          refine zw_3 zr_8_17 rfl ?_
          refine zw_49 (c := 48) (len := 50) zr_8_18 rfl rfl (by omega) (by omega) ?_
          intro m12 em12
          have hIm12 : zInv m12 := by rw [em12]; exact hIm3.any (by omega) rfl (by decide) (by decide)
          have hFm12 : zFr W_9 m0 m12 := by rw [em12]; exact hFm3.any rfl
          have km12_45_6 : m12 45 6 = p4 := by rw [em12, zUp_ne (by omega)]; exact km3_45_6
          have km12_45_5 : m12 45 5 = f7 := by rw [em12, zUp_ne (by omega)]; exact ef7
          have km12_45_8 : m12 45 8 = f9 := by rw [em12, zUp_ne (by omega)]; exact ef9
          clear em12
          refine zw_7 zr_8_19 rfl ?_
          refine zw_43 zr_8_20 rfl ?_
          refine zw_46i zr_8_21 km12_45_8 rfl rfl rfl ?_
          refine zw_push zr_8_24 ?_
          refine zw_16 zr_8_25 (by omega) ?_
          refine zw_47 (c := 45) zr_8_26 rfl ⟨rfl, by decide, rfl⟩ ?_
          intro m13 em13
          have hIm13 : zInv m13 := by rw [em13]; exact hIm12.bd (r := 45) (k := 8) (lo := 0) (hi := 50) rfl (by omega) (by decide) (by decide) (by decide)
          have hFm13 : zFr W_9 m0 m13 := by rw [em13]; exact hFm12.up rfl
          have km13_45_6 : m13 45 6 = p4 := by rw [em13, zUp_ne (by omega)]; exact km12_45_6
          have km13_45_5 : m13 45 5 = f7 := by rw [em13, zUp_ne (by omega)]; exact km12_45_5
          have km13_45_8 : m13 45 8 = (f9 + 1) := by rw [em13]; exact zUp_eq _ _ _ _
          clear em13
          refine zw_R zr_8_29 (by decide) zm_8 (v := (9, 0)) rfl ?_
          rw [← hQ1]
          show zW E (d) 9 104 [(2, 45), (0, f1), (0, i2)] [] m13 Q
          refine zw_R zr_9_104 (by decide) zm_9 (v := (9, 0)) rfl ?_
          rw [← hQ]; exact ⟨rfl, hIm13, hFm13⟩
      · intro h14
        refine zw_7 zr_9_18 rfl ?_
        refine zw_46r (s := 47) zr_9_19 rfl rfl rfl rfl ?_
        refine zw_7 zr_9_22 rfl ?_
        refine zw_46i zr_9_23 km3_45_6 rfl rfl rfl ?_
        refine zw_48 (c := 47) (len := 50) zr_9_26 rfl rfl (by omega) (by omega) ?_
        intro x15 ex15
        have bx15 := ib_47 hIm3 (k := (p4).toNat) (by omega)
        rw [← ex15] at bx15
        refine zw_push zr_9_27 ?_
        refine zw_41_0 zr_9_29 ?_ ?_
        · intro h16
          refine zw_7 zr_9_99 rfl ?_
          refine zw_3 zr_9_100 rfl ?_
          refine zw_C zr_9_101 (Or.inl rfl) zm_8 rfl rfl ⟨Nat.le_of_ble_eq_true rfl, Nat.le_of_ble_eq_true rfl, Nat.le_of_ble_eq_true rfl, rfl, by decide⟩ (by omega) (P := (fun v m' => zW E (d) 9 104 [(2, 45), (0, f1), (0, i2)] (if v.1 = 9 then [] else v :: []) m' Q)) ?_ (fun _ _ h => h)
          generalize hQ1 : (fun v m' => zW E (d) 9 104 [(2, 45), (0, f1), (0, i2)] (if v.1 = 9 then [] else v :: []) m' Q) = Q1
          show zW E (d - 1) 8 0 [(2, 45), (0, i2)] [] m3 Q1
          refine zw_7 zr_8_0 rfl ?_
          obtain ⟨f17, ef17⟩ : ∃ v, m3 45 8 = v := ⟨_, rfl⟩
          have bf17 := ib_45_8 hIm3
          rw [ef17] at bf17
          refine zw_46i zr_8_1 ef17 rfl rfl rfl ?_
          refine zw_push zr_8_4 ?_
          refine zw_41_3 zr_8_6 ?_ ?_
          · intro h18
            refine zw_R zr_8_29 (by decide) zm_8 (v := (9, 0)) rfl ?_
            rw [← hQ1]
            show zW E (d) 9 104 [(2, 45), (0, f1), (0, i2)] [] m3 Q
            refine zw_R zr_9_104 (by decide) zm_9 (v := (9, 0)) rfl ?_
            rw [← hQ]; exact ⟨rfl, hIm3, hFm3⟩
          · intro h19
            refine zw_7 zr_8_9 rfl ?_
            refine zw_46r (s := 48) zr_8_10 rfl rfl rfl rfl ?_
            refine zw_7 zr_8_13 rfl ?_
            refine zw_46i zr_8_14 ef17 rfl rfl rfl ?_
            refine zw_3 zr_8_17 rfl ?_
            refine zw_49 (c := 48) (len := 50) zr_8_18 rfl rfl (by omega) (by omega) ?_
            intro m20 em20
            have hIm20 : zInv m20 := by rw [em20]; exact hIm3.any (by omega) rfl (by decide) (by decide)
            have hFm20 : zFr W_9 m0 m20 := by rw [em20]; exact hFm3.any rfl
            have km20_45_6 : m20 45 6 = p4 := by rw [em20, zUp_ne (by omega)]; exact km3_45_6
            have km20_45_5 : m20 45 5 = f7 := by rw [em20, zUp_ne (by omega)]; exact ef7
            have km20_45_8 : m20 45 8 = f17 := by rw [em20, zUp_ne (by omega)]; exact ef17
            clear em20
            refine zw_7 zr_8_19 rfl ?_
            refine zw_43 zr_8_20 rfl ?_
            refine zw_46i zr_8_21 km20_45_8 rfl rfl rfl ?_
            refine zw_push zr_8_24 ?_
            refine zw_16 zr_8_25 (by omega) ?_
            refine zw_47 (c := 45) zr_8_26 rfl ⟨rfl, by decide, rfl⟩ ?_
            intro m21 em21
            have hIm21 : zInv m21 := by rw [em21]; exact hIm20.bd (r := 45) (k := 8) (lo := 0) (hi := 50) rfl (by omega) (by decide) (by decide) (by decide)
            have hFm21 : zFr W_9 m0 m21 := by rw [em21]; exact hFm20.up rfl
            have km21_45_6 : m21 45 6 = p4 := by rw [em21, zUp_ne (by omega)]; exact km20_45_6
            have km21_45_5 : m21 45 5 = f7 := by rw [em21, zUp_ne (by omega)]; exact km20_45_5
            have km21_45_8 : m21 45 8 = (f17 + 1) := by rw [em21]; exact zUp_eq _ _ _ _
            clear em21
            refine zw_R zr_8_29 (by decide) zm_8 (v := (9, 0)) rfl ?_
            rw [← hQ1]
            show zW E (d) 9 104 [(2, 45), (0, f1), (0, i2)] [] m21 Q
            refine zw_R zr_9_104 (by decide) zm_9 (v := (9, 0)) rfl ?_
            rw [← hQ]; exact ⟨rfl, hIm21, hFm21⟩
        · intro h22
          refine zw_7 zr_9_32 rfl ?_
          refine zw_46r (s := 47) zr_9_33 rfl rfl rfl rfl ?_
          refine zw_7 zr_9_36 rfl ?_
          refine zw_46i zr_9_37 km3_45_6 rfl rfl rfl ?_
          refine zw_48k (c := 47) (len := 50) zr_9_40 rfl rfl (by omega) (by omega) rfl ex15.symm ?_
          refine zw_push zr_9_41 ?_
          refine zw_41_2 zr_9_43 ?_ ?_
          · intro h23
            refine zw_7 zr_9_99 rfl ?_
            refine zw_3 zr_9_100 rfl ?_
            refine zw_C zr_9_101 (Or.inl rfl) zm_8 rfl rfl ⟨Nat.le_of_ble_eq_true rfl, Nat.le_of_ble_eq_true rfl, Nat.le_of_ble_eq_true rfl, rfl, by decide⟩ (by omega) (P := (fun v m' => zW E (d) 9 104 [(2, 45), (0, f1), (0, i2)] (if v.1 = 9 then [] else v :: []) m' Q)) ?_ (fun _ _ h => h)
            generalize hQ1 : (fun v m' => zW E (d) 9 104 [(2, 45), (0, f1), (0, i2)] (if v.1 = 9 then [] else v :: []) m' Q) = Q1
            show zW E (d - 1) 8 0 [(2, 45), (0, i2)] [] m3 Q1
            refine zw_7 zr_8_0 rfl ?_
            obtain ⟨f24, ef24⟩ : ∃ v, m3 45 8 = v := ⟨_, rfl⟩
            have bf24 := ib_45_8 hIm3
            rw [ef24] at bf24
            refine zw_46i zr_8_1 ef24 rfl rfl rfl ?_
            refine zw_push zr_8_4 ?_
            refine zw_41_3 zr_8_6 ?_ ?_
            · intro h25
              refine zw_R zr_8_29 (by decide) zm_8 (v := (9, 0)) rfl ?_
              rw [← hQ1]
              show zW E (d) 9 104 [(2, 45), (0, f1), (0, i2)] [] m3 Q
              refine zw_R zr_9_104 (by decide) zm_9 (v := (9, 0)) rfl ?_
              rw [← hQ]; exact ⟨rfl, hIm3, hFm3⟩
            · intro h26
              refine zw_7 zr_8_9 rfl ?_
              refine zw_46r (s := 48) zr_8_10 rfl rfl rfl rfl ?_
              refine zw_7 zr_8_13 rfl ?_
              refine zw_46i zr_8_14 ef24 rfl rfl rfl ?_
              refine zw_3 zr_8_17 rfl ?_
              refine zw_49 (c := 48) (len := 50) zr_8_18 rfl rfl (by omega) (by omega) ?_
              intro m27 em27
              have hIm27 : zInv m27 := by rw [em27]; exact hIm3.any (by omega) rfl (by decide) (by decide)
              have hFm27 : zFr W_9 m0 m27 := by rw [em27]; exact hFm3.any rfl
              have km27_45_6 : m27 45 6 = p4 := by rw [em27, zUp_ne (by omega)]; exact km3_45_6
              have km27_45_5 : m27 45 5 = f7 := by rw [em27, zUp_ne (by omega)]; exact ef7
              have km27_45_8 : m27 45 8 = f24 := by rw [em27, zUp_ne (by omega)]; exact ef24
              clear em27
              refine zw_7 zr_8_19 rfl ?_
              refine zw_43 zr_8_20 rfl ?_
              refine zw_46i zr_8_21 km27_45_8 rfl rfl rfl ?_
              refine zw_push zr_8_24 ?_
              refine zw_16 zr_8_25 (by omega) ?_
              refine zw_47 (c := 45) zr_8_26 rfl ⟨rfl, by decide, rfl⟩ ?_
              intro m28 em28
              have hIm28 : zInv m28 := by rw [em28]; exact hIm27.bd (r := 45) (k := 8) (lo := 0) (hi := 50) rfl (by omega) (by decide) (by decide) (by decide)
              have hFm28 : zFr W_9 m0 m28 := by rw [em28]; exact hFm27.up rfl
              have km28_45_6 : m28 45 6 = p4 := by rw [em28, zUp_ne (by omega)]; exact km27_45_6
              have km28_45_5 : m28 45 5 = f7 := by rw [em28, zUp_ne (by omega)]; exact km27_45_5
              have km28_45_8 : m28 45 8 = (f24 + 1) := by rw [em28]; exact zUp_eq _ _ _ _
              clear em28
              refine zw_R zr_8_29 (by decide) zm_8 (v := (9, 0)) rfl ?_
              rw [← hQ1]
              show zW E (d) 9 104 [(2, 45), (0, f1), (0, i2)] [] m28 Q
              refine zw_R zr_9_104 (by decide) zm_9 (v := (9, 0)) rfl ?_
              rw [← hQ]; exact ⟨rfl, hIm28, hFm28⟩
          · intro h29
            refine zw_7 zr_9_46 rfl ?_
            refine zw_46i zr_9_47 km3_45_6 rfl rfl rfl ?_
            refine zw_3 zr_9_50 rfl ?_
            refine zw_17 zr_9_51 (by omega) ?_
            refine zw_push zr_9_52 ?_
            refine zw_41_0 zr_9_54 ?_ ?_
            · intro h30
              refine zw_3 zr_9_68 rfl ?_
              refine zw_push zr_9_69 ?_
              refine zw_18h zr_9_71 ?_
              intro x31 hx31a hx31b
              refine zw_7 zr_9_72 rfl ?_
              refine zw_46r (s := 47) zr_9_73 rfl rfl rfl rfl ?_
              refine zw_7 zr_9_76 rfl ?_
              refine zw_46i zr_9_77 km3_45_6 rfl rfl rfl ?_
              refine zw_48k (c := 47) (len := 50) zr_9_80 rfl rfl (by omega) (by omega) rfl ex15.symm ?_
              refine zw_16h zr_9_81 ?_
              intro x32 hx32a hx32b
              refine zw_push zr_9_82 ?_
              refine zw_17h zr_9_84 ?_
              intro x33 hx33a hx33b
              refine zw_9 (L' := [(2, 45), (0, f1), (0, x33)]) zr_9_85 (Nat.le_of_ble_eq_true rfl) rfl ?_
              refine zw_7 zr_9_86 rfl ?_
              refine zw_43 zr_9_87 rfl ?_
              refine zw_46i zr_9_88 km3_45_6 rfl rfl rfl ?_
              refine zw_push zr_9_91 ?_
              refine zw_16 zr_9_92 (by omega) ?_
              refine zw_47 (c := 45) zr_9_93 rfl ⟨rfl, by decide, rfl⟩ ?_
              intro m34 em34
              have hIm34 : zInv m34 := by rw [em34]; exact hIm3.bd (r := 45) (k := 6) (lo := 0) (hi := 50) rfl (by omega) (by decide) (by decide) (by decide)
              have hFm34 : zFr W_9 m0 m34 := by rw [em34]; exact hFm3.up rfl
              have km34_45_5 : m34 45 5 = f7 := by rw [em34, zUp_ne (by omega)]; exact ef7
              have km34_45_6 : m34 45 6 = (p4 + 1) := by rw [em34]; exact zUp_eq _ _ _ _
              clear em34
              refine zw_42 zr_9_96 ?_
              exact zw_less (L := [(2, 45), (0, f1), (0, x33)]) ⟨Or.inr rfl, Or.inr rfl, Or.inr rfl, trivial⟩ (ihlp7_5 (x33) ((p4 + 1)) m34 hIm34 hFm34  km34_45_6 (by omega) (by omega) (by omega) (by omega) (by omega))
            · intro h35
              refine zw_7 zr_9_57 rfl ?_
              refine zw_3 zr_9_58 rfl ?_
              refine zw_47 (c := 45) zr_9_59 rfl ⟨rfl, by decide, rfl⟩ ?_
              intro m36 em36
              have hIm36 : zInv m36 := by rw [em36]; exact hIm3.bd (r := 45) (k := 6) (lo := 0) (hi := 50) rfl (by omega) (by decide) (by decide) (by decide)
              have hFm36 : zFr W_9 m0 m36 := by rw [em36]; exact hFm3.up rfl
              have km36_45_5 : m36 45 5 = f7 := by rw [em36, zUp_ne (by omega)]; exact ef7
              have km36_45_6 : m36 45 6 = f1 := by rw [em36]; exact zUp_eq _ _ _ _
              clear em36
              refine zw_7 zr_9_62 rfl ?_
              refine zw_push zr_9_63 ?_
              refine zw_C zr_9_64 (Or.inl rfl) zm_5 rfl rfl ⟨Nat.le_of_ble_eq_true rfl, Nat.le_of_ble_eq_true rfl, Nat.le_of_ble_eq_true rfl, rfl, by decide⟩ (by omega) (P := (fun v m' => zW E (d) 9 67 [(2, 45), (0, f1), (0, i2)] (if v.1 = 9 then [] else v :: []) m' Q)) ?_ (fun _ _ h => h)
              generalize hQ1 : (fun v m' => zW E (d) 9 67 [(2, 45), (0, f1), (0, i2)] (if v.1 = 9 then [] else v :: []) m' Q) = Q1
              show zW E (d - 1) 5 0 [(2, 45), (0, 2)] [] m36 Q1
              refine zw_7 zr_5_0 rfl ?_
              obtain ⟨f37, ef37⟩ : ∃ v, m36 45 1 = v := ⟨_, rfl⟩
              have bf37 := hIm36.fi (c := 45) (k := 1) rfl
              rw [ef37] at bf37
              refine zw_46i zr_5_1 ef37 rfl rfl rfl ?_
              refine zw_push zr_5_4 ?_
              refine zw_41_4 zr_5_5 ?_ ?_
              · intro h38
                refine zw_R zr_5_21 (by decide) zm_5 (v := (9, 0)) rfl ?_
                rw [← hQ1]
                show zW E (d) 9 67 [(2, 45), (0, f1), (0, i2)] [] m36 Q
                refine zw_R zr_9_67 (by decide) zm_9 (v := (9, 0)) rfl ?_
                rw [← hQ]; exact ⟨rfl, hIm36, hFm36⟩
              · intro h39
                refine zw_7 zr_5_8 rfl ?_
                refine zw_7 zr_5_9 rfl ?_
                refine zw_46i zr_5_10 km36_45_6 rfl rfl rfl ?_
                refine zw_push zr_5_13 ?_
                refine zw_18 zr_5_15 (by omega) ?_
                refine zw_3 zr_5_16 rfl ?_
                refine zw_16 zr_5_17 (by omega) ?_
                refine zw_47 (c := 45) zr_5_18 rfl ⟨rfl, by decide, rfl⟩ ?_
                intro m40 em40
                have hIm40 : zInv m40 := by rw [em40]; exact hIm36.any (by omega) rfl (by decide) (by decide)
                have hFm40 : zFr W_9 m0 m40 := by rw [em40]; exact hFm36.up rfl
                have km40_45_5 : m40 45 5 = f7 := by rw [em40, zUp_ne (by omega)]; exact km36_45_5
                have km40_45_6 : m40 45 6 = f1 := by rw [em40, zUp_ne (by omega)]; exact km36_45_6
                have km40_45_1 : m40 45 1 = ((f1 * 10) + 2) := by rw [em40]; exact zUp_eq _ _ _ _
                clear em40
                refine zw_R zr_5_21 (by decide) zm_5 (v := (9, 0)) rfl ?_
                rw [← hQ1]
                show zW E (d) 9 67 [(2, 45), (0, f1), (0, i2)] [] m40 Q
                refine zw_R zr_9_67 (by decide) zm_9 (v := (9, 0)) rfl ?_
                rw [← hQ]; exact ⟨rfl, hIm40, hFm40⟩
  exact lp7_5 _ (0) (f1) m0 hI0 hF0  ef1 (by omega) (by omega) (by omega) (by omega) (Nat.lt_succ_self _)

abbrev W_162 : List (Nat × Nat) := [(69, 5), (69, 6), (69, 7), (69, 9), (69, 11), (69, 13), (73, 1000), (74, 1000)]
set_option maxHeartbeats 8000000 in
theorem th_162 {E : zE} {d : Nat} {m0 : zM} {a0 : Int} (hd : 7 ≤ d) (hI0 : zInv m0) (ha0 : 0 ≤ a0 ∧ a0 ≤ 3) : zC E d 162 [(2, 69), (0, a0)] m0 (fun v m' => ∃ r : Int, v = (0, r) ∧ 0 ≤ r ∧ r ≤ 1 ∧ zInv m' ∧ zFr W_162 m0 m') := by
  have hF0 : zFr W_162 m0 m0 := zFr.rfl
  generalize hQ : (fun (v : zV) (m' : zM) => ∃ r : Int, v = (0, r) ∧ 0 ≤ r ∧ r ≤ 1 ∧ zInv m' ∧ zFr W_162 m0 m') = Q
  show zW E d 162 0 [(2, 69), (0, a0)] [] m0 Q
  refine zw_7 zr_162_0 rfl ?_
  refine zw_3 zr_162_1 rfl ?_
  refine zw_47 (c := 69) zr_162_2 rfl ⟨rfl, by decide, rfl⟩ ?_
  intro m1 em1
  have hIm1 : zInv m1 := by rw [em1]; exact hI0.bd (r := 69) (k := 5) (lo := 0) (hi := 3) rfl (by omega) (by decide) (by decide) (by decide)
  have hFm1 : zFr W_162 m0 m1 := by rw [em1]; exact hF0.up rfl
  have km1_69_5 : m1 69 5 = a0 := by rw [em1]; exact zUp_eq _ _ _ _
  clear em1
  refine zw_7 zr_162_5 rfl ?_
  refine zw_C zr_162_6 (Or.inl rfl) zm_161 rfl rfl ⟨Nat.le_of_ble_eq_true rfl, Nat.le_of_ble_eq_true rfl, Nat.le_of_ble_eq_true rfl, rfl, by decide⟩ (by omega) (th_161 (d := d - 1) (by omega) hIm1    ) ?_
  rintro _ m2 ⟨r3, rfl, hr3a, hr3b, hIm2, gm2⟩
  have hFm2 : zFr W_162 m0 m2 := hFm1.trans gm2 rfl
  have km2_69_5 : m2 69 5 = a0 := (gm2 69 5 rfl).trans km1_69_5
  show zW E (d) 162 9 [(2, 69), (0, a0)] [(0, r3)] m2 Q
  refine zw_R zr_162_9 (by decide) zm_162 (v := (0, r3)) (zRetB (by omega)) ?_
  rw [← hQ]; exact ⟨_, rfl, by omega, by omega, hIm2, hFm2⟩

abbrev W_163 : List (Nat × Nat) := [(69, 5), (69, 6), (69, 7), (69, 9), (69, 11), (69, 13), (73, 1000), (74, 1000)]
set_option maxHeartbeats 8000000 in
theorem th_163 {E : zE} {d : Nat} {m0 : zM} {a0 : Int} (hd : 8 ≤ d) (hI0 : zInv m0) (ha0 : (-2147483648) ≤ a0 ∧ a0 ≤ 2147483647) : zC E d 163 [(2, 69), (0, a0)] m0 (fun v m' => ∃ r : Int, v = (0, r) ∧ (-2147483648) ≤ r ∧ r ≤ 2147483647 ∧ zInv m' ∧ zFr W_163 m0 m') := by
  have hF0 : zFr W_163 m0 m0 := zFr.rfl
  generalize hQ : (fun (v : zV) (m' : zM) => ∃ r : Int, v = (0, r) ∧ (-2147483648) ≤ r ∧ r ≤ 2147483647 ∧ zInv m' ∧ zFr W_163 m0 m') = Q
  show zW E d 163 0 [(2, 69), (0, a0), (9, 0)] [] m0 Q
  refine zw_3 zr_163_0 rfl ?_
  refine zw_C zr_163_1 (Or.inr rfl) zm_148 rfl rfl ⟨Nat.le_of_ble_eq_true rfl, Nat.le_of_ble_eq_true rfl, Nat.le_of_ble_eq_true rfl, rfl, by decide⟩ (by omega) (P := (fun v m' => zW E (d) 163 4 [(2, 69), (0, a0), (9, 0)] (if v.1 = 9 then [] else v :: []) m' Q)) ?_ (fun _ _ h => h)
  generalize hQ1 : (fun v m' => zW E (d) 163 4 [(2, 69), (0, a0), (9, 0)] (if v.1 = 9 then [] else v :: []) m' Q) = Q1
  show zW E (d - 1) 148 0 [(0, a0)] [] m0 Q1
  refine zw_3 zr_148_0 rfl ?_
  refine zw_36 zr_148_1 ?_
  refine zw_push zr_148_2 ?_
  refine zw_push zr_148_3 ?_
  refine zw_C zr_148_6 (Or.inr rfl) zm_140 rfl rfl ⟨Nat.le_of_ble_eq_true rfl, Nat.le_of_ble_eq_true rfl, Nat.le_of_ble_eq_true rfl, rfl, by decide⟩ (by omega) (P := (fun v m' => zW E (d - 1) 148 9 [(0, a0)] (if v.1 = 9 then [] else v :: []) m' Q1)) ?_ (fun _ _ h => h)
  generalize hQ2 : (fun v m' => zW E (d - 1) 148 9 [(0, a0)] (if v.1 = 9 then [] else v :: []) m' Q1) = Q2
  show zW E (d - 1 - 1) 140 0 [(1, a0), (9, 0), (1, 0), (9, 0), (1, 3), (9, 0)] [] m0 Q2
  refine zw_5 zr_140_0 rfl ?_
  refine zw_5 zr_140_1 rfl ?_
  refine zw_39_0 zr_140_2 zr_140_3 ?_ ?_
  · intro h1
    refine zw_push zr_140_17 ?_
    refine zw_R zr_140_18 (by decide) zm_140 (v := (0, 0)) (zRetB (by omega)) ?_
    rw [← hQ2]
    show zW E (d - 1) 148 9 [(0, a0)] [(0, 0)] m0 Q1
    refine zw_R zr_148_9 (by decide) zm_148 (v := (0, 0)) (zRetB (by omega)) ?_
    rw [← hQ1]
    show zW E (d) 163 4 [(2, 69), (0, a0), (9, 0)] [(0, 0)] m0 Q
    refine zw_40_4 zr_163_4 ?_ ?_
    · intro h2; omega
    · intro h3
      refine zw_push zr_163_7 ?_
      refine zw_R zr_163_9 (by decide) zm_163 (v := (0, (-2))) rfl ?_
      rw [← hQ]; exact ⟨_, rfl, by omega, by omega, hI0, hF0⟩
  · intro h4
    refine zw_5 zr_140_6 rfl ?_
    refine zw_6 zr_140_7 rfl ?_
    refine zw_39_2 zr_140_9 zr_140_10 ?_ ?_
    · intro h5
      refine zw_push zr_140_17 ?_
      refine zw_R zr_140_18 (by decide) zm_140 (v := (0, 0)) (zRetB (by omega)) ?_
      rw [← hQ2]
      show zW E (d - 1) 148 9 [(0, a0)] [(0, 0)] m0 Q1
      refine zw_R zr_148_9 (by decide) zm_148 (v := (0, 0)) (zRetB (by omega)) ?_
      rw [← hQ1]
      show zW E (d) 163 4 [(2, 69), (0, a0), (9, 0)] [(0, 0)] m0 Q
      refine zw_40_4 zr_163_4 ?_ ?_
      · intro h6; omega
      · intro h7
        refine zw_push zr_163_7 ?_
        refine zw_R zr_163_9 (by decide) zm_163 (v := (0, (-2))) rfl ?_
        rw [← hQ]; exact ⟨_, rfl, by omega, by omega, hI0, hF0⟩
    · intro h8
      refine zw_push zr_140_13 ?_
      refine zw_42 zr_140_14 ?_
      refine zw_R zr_140_18 (by decide) zm_140 (v := (0, 1)) (zRetB (by omega)) ?_
      rw [← hQ2]
      show zW E (d - 1) 148 9 [(0, a0)] [(0, 1)] m0 Q1
      refine zw_R zr_148_9 (by decide) zm_148 (v := (0, 1)) (zRetB (by omega)) ?_
      rw [← hQ1]
      show zW E (d) 163 4 [(2, 69), (0, a0), (9, 0)] [(0, 1)] m0 Q
      refine zw_40_4 zr_163_4 ?_ ?_
      · intro h9
        refine zw_7 zr_163_10 rfl ?_
        refine zw_3 zr_163_11 rfl ?_
        refine zw_C zr_163_12 (Or.inl rfl) zm_162 rfl rfl ⟨Nat.le_of_ble_eq_true rfl, Nat.le_of_ble_eq_true rfl, Nat.le_of_ble_eq_true rfl, rfl, by decide⟩ (by omega) (th_162 (d := d - 1) (by omega) hI0 (a0 := a0)   (by omega)) ?_
        rintro _ m10 ⟨r11, rfl, hr11a, hr11b, hIm10, gm10⟩
        have hFm10 : zFr W_163 m0 m10 := hF0.trans gm10 rfl
        show zW E (d) 163 15 [(2, 69), (0, a0), (9, 0)] [(0, r11)] m10 Q
        refine zw_9 (L' := [(2, 69), (0, a0), (0, r11)]) zr_163_15 (Nat.le_of_ble_eq_true rfl) rfl ?_
        refine zw_7 zr_163_16 rfl ?_
        obtain ⟨f12, ef12⟩ : ∃ v, m10 69 7 = v := ⟨_, rfl⟩
        have bf12 := hIm10.fi (c := 69) (k := 7) rfl
        rw [ef12] at bf12
        refine zw_46i zr_163_17 ef12 rfl rfl rfl ?_
        refine zw_R zr_163_20 (by decide) zm_163 (v := (0, f12)) rfl ?_
        rw [← hQ]; exact ⟨_, rfl, by omega, by omega, hIm10, hFm10⟩
      · intro h13; omega

abbrev W_4_44 : List (Nat × Nat) := [(44, 1000)]
set_option maxHeartbeats 8000000 in
theorem th_4_44 {E : zE} {d : Nat} {m0 : zM} {a0 : Int} (hd : 1 ≤ d) (hI0 : zInv m0) (ha0 : 0 ≤ a0 ∧ a0 ≤ 9999) : zC E d 4 [(2, 44), (0, a0)] m0 (fun v m' => v = (9, 0) ∧ zInv m' ∧ zFr W_4_44 m0 m') := by
  have hF0 : zFr W_4_44 m0 m0 := zFr.rfl
  generalize hQ : (fun (v : zV) (m' : zM) => v = (9, 0) ∧ zInv m' ∧ zFr W_4_44 m0 m') = Q
  show zW E d 4 0 [(2, 44), (0, a0), (9, 0), (9, 0)] [] m0 Q
  refine zw_push zr_4_0 ?_
  refine zw_9 (L' := [(2, 44), (0, a0), (0, 0), (9, 0)]) zr_4_1 (Nat.le_of_ble_eq_true rfl) rfl ?_
  refine zw_7 zr_4_2 rfl ?_
  refine zw_101 (c := 44) (len := 10) zr_4_3 rfl rfl (by decide) ?_
  refine zw_9 (L' := [(2, 44), (0, a0), (0, 0), (0, 10)]) zr_4_4 (Nat.le_of_ble_eq_true rfl) rfl ?_
  have lp5_3 : ∀ (nlp5_3 : Nat) (i1 : Int) (m2 : zM), zInv m2 → zFr W_4_44 m0 m2 → 0 ≤ i1 → i1 ≤ 10 → (10 - i1).toNat < nlp5_3 → zW E (d) 4 5 [(2, 44), (0, a0), (0, i1), (0, 10)] [] m2 Q := by
    intro nlp5_3
    induction nlp5_3 with
    | zero =>
      intros
      exact absurd (by assumption : _ < 0) (Nat.not_lt_zero _)
    | succ nlp5_3 ihlp5_3 =>
      intro i1 m2 hIm2 hFm2 li1 ui1 hmlp5_3
      refine zw_3 zr_4_5 rfl ?_
      refine zw_3 zr_4_6 rfl ?_
      refine zw_41_3 zr_4_7 ?_ ?_
      · intro h5
        refine zw_R zr_4_20 (by decide) zm_4 (v := (9, 0)) rfl ?_
        rw [← hQ]; exact ⟨rfl, hIm2, hFm2⟩
      · intro h6
        refine zw_7 zr_4_10 rfl ?_
        refine zw_3 zr_4_11 rfl ?_
        refine zw_3 zr_4_12 rfl ?_
        refine zw_49 (c := 44) (len := 10) zr_4_13 rfl rfl (by omega) (by omega) ?_
        intro m7 em7
        have hIm7 : zInv m7 := by rw [em7]; exact hIm2.any (by omega) rfl (by decide) (by decide)
        have hFm7 : zFr W_4_44 m0 m7 := by rw [em7]; exact hFm2.any rfl
        clear em7
        refine zw_15 (c := 1) (L' := [(2, 44), (0, a0), (0, (i1 + 1)), (0, 10)]) zr_4_14 rfl (by decide) (by omega) rfl ?_
        refine zw_42 zr_4_17 ?_
        exact zw_less (L := [(2, 44), (0, a0), (0, (i1 + 1)), (0, 10)]) ⟨Or.inr rfl, Or.inr rfl, Or.inr rfl, Or.inr rfl, trivial⟩ (ihlp5_3 ((i1 + 1)) m7 hIm7 hFm7   (by omega) (by omega) (by omega))
  exact lp5_3 _ (0) m0 hI0 hF0   (by omega) (by omega) (Nat.lt_succ_self _)

abbrev W_4_50 : List (Nat × Nat) := [(50, 1000)]
set_option maxHeartbeats 8000000 in
theorem th_4_50 {E : zE} {d : Nat} {m0 : zM} {a0 : Int} (hd : 1 ≤ d) (hI0 : zInv m0) (ha0 : 0 ≤ a0 ∧ a0 ≤ 0) : zC E d 4 [(2, 50), (0, a0)] m0 (fun v m' => v = (9, 0) ∧ zInv m' ∧ zFr W_4_50 m0 m') := by
  have hF0 : zFr W_4_50 m0 m0 := zFr.rfl
  generalize hQ : (fun (v : zV) (m' : zM) => v = (9, 0) ∧ zInv m' ∧ zFr W_4_50 m0 m') = Q
  show zW E d 4 0 [(2, 50), (0, a0), (9, 0), (9, 0)] [] m0 Q
  refine zw_push zr_4_0 ?_
  refine zw_9 (L' := [(2, 50), (0, a0), (0, 0), (9, 0)]) zr_4_1 (Nat.le_of_ble_eq_true rfl) rfl ?_
  refine zw_7 zr_4_2 rfl ?_
  refine zw_101 (c := 50) (len := 10) zr_4_3 rfl rfl (by decide) ?_
  refine zw_9 (L' := [(2, 50), (0, a0), (0, 0), (0, 10)]) zr_4_4 (Nat.le_of_ble_eq_true rfl) rfl ?_
  have lp5_3 : ∀ (nlp5_3 : Nat) (i1 : Int) (m2 : zM), zInv m2 → zFr W_4_50 m0 m2 → 0 ≤ i1 → i1 ≤ 10 → (10 - i1).toNat < nlp5_3 → zW E (d) 4 5 [(2, 50), (0, a0), (0, i1), (0, 10)] [] m2 Q := by
    intro nlp5_3
    induction nlp5_3 with
    | zero =>
      intros
      exact absurd (by assumption : _ < 0) (Nat.not_lt_zero _)
    | succ nlp5_3 ihlp5_3 =>
      intro i1 m2 hIm2 hFm2 li1 ui1 hmlp5_3
      refine zw_3 zr_4_5 rfl ?_
      refine zw_3 zr_4_6 rfl ?_
      refine zw_41_3 zr_4_7 ?_ ?_
      · intro h5
        refine zw_R zr_4_20 (by decide) zm_4 (v := (9, 0)) rfl ?_
        rw [← hQ]; exact ⟨rfl, hIm2, hFm2⟩
      · intro h6
        refine zw_7 zr_4_10 rfl ?_
        refine zw_3 zr_4_11 rfl ?_
        refine zw_3 zr_4_12 rfl ?_
        refine zw_49 (c := 50) (len := 10) zr_4_13 rfl rfl (by omega) (by omega) ?_
        intro m7 em7
        have hIm7 : zInv m7 := by rw [em7]; exact hIm2.any (by omega) rfl (by decide) (by decide)
        have hFm7 : zFr W_4_50 m0 m7 := by rw [em7]; exact hFm2.any rfl
        clear em7
        refine zw_15 (c := 1) (L' := [(2, 50), (0, a0), (0, (i1 + 1)), (0, 10)]) zr_4_14 rfl (by decide) (by omega) rfl ?_
        refine zw_42 zr_4_17 ?_
        exact zw_less (L := [(2, 50), (0, a0), (0, (i1 + 1)), (0, 10)]) ⟨Or.inr rfl, Or.inr rfl, Or.inr rfl, Or.inr rfl, trivial⟩ (ihlp5_3 ((i1 + 1)) m7 hIm7 hFm7   (by omega) (by omega) (by omega))
  exact lp5_3 _ (0) m0 hI0 hF0   (by omega) (by omega) (Nat.lt_succ_self _)

abbrev W_4_51 : List (Nat × Nat) := [(51, 1000)]
set_option maxHeartbeats 8000000 in
theorem th_4_51 {E : zE} {d : Nat} {m0 : zM} {a0 : Int} (hd : 1 ≤ d) (hI0 : zInv m0) (ha0 : 0 ≤ a0 ∧ a0 ≤ 0) : zC E d 4 [(2, 51), (0, a0)] m0 (fun v m' => v = (9, 0) ∧ zInv m' ∧ zFr W_4_51 m0 m') := by
  have hF0 : zFr W_4_51 m0 m0 := zFr.rfl
  generalize hQ : (fun (v : zV) (m' : zM) => v = (9, 0) ∧ zInv m' ∧ zFr W_4_51 m0 m') = Q
  show zW E d 4 0 [(2, 51), (0, a0), (9, 0), (9, 0)] [] m0 Q
  refine zw_push zr_4_0 ?_
  refine zw_9 (L' := [(2, 51), (0, a0), (0, 0), (9, 0)]) zr_4_1 (Nat.le_of_ble_eq_true rfl) rfl ?_
  refine zw_7 zr_4_2 rfl ?_
  refine zw_101 (c := 51) (len := 10) zr_4_3 rfl rfl (by decide) ?_
  refine zw_9 (L' := [(2, 51), (0, a0), (0, 0), (0, 10)]) zr_4_4 (Nat.le_of_ble_eq_true rfl) rfl ?_
  have lp5_3 : ∀ (nlp5_3 : Nat) (i1 : Int) (m2 : zM), zInv m2 → zFr W_4_51 m0 m2 → 0 ≤ i1 → i1 ≤ 10 → (10 - i1).toNat < nlp5_3 → zW E (d) 4 5 [(2, 51), (0, a0), (0, i1), (0, 10)] [] m2 Q := by
    intro nlp5_3
    induction nlp5_3 with
    | zero =>
      intros
      exact absurd (by assumption : _ < 0) (Nat.not_lt_zero _)
    | succ nlp5_3 ihlp5_3 =>
      intro i1 m2 hIm2 hFm2 li1 ui1 hmlp5_3
      refine zw_3 zr_4_5 rfl ?_
      refine zw_3 zr_4_6 rfl ?_
      refine zw_41_3 zr_4_7 ?_ ?_
      · intro h5
        refine zw_R zr_4_20 (by decide) zm_4 (v := (9, 0)) rfl ?_
        rw [← hQ]; exact ⟨rfl, hIm2, hFm2⟩
      · intro h6
        refine zw_7 zr_4_10 rfl ?_
        refine zw_3 zr_4_11 rfl ?_
        refine zw_3 zr_4_12 rfl ?_
        refine zw_49 (c := 51) (len := 10) zr_4_13 rfl rfl (by omega) (by omega) ?_
        intro m7 em7
        have hIm7 : zInv m7 := by rw [em7]; exact hIm2.any (by omega) rfl (by decide) (by decide)
        have hFm7 : zFr W_4_51 m0 m7 := by rw [em7]; exact hFm2.any rfl
        clear em7
        refine zw_15 (c := 1) (L' := [(2, 51), (0, a0), (0, (i1 + 1)), (0, 10)]) zr_4_14 rfl (by decide) (by omega) rfl ?_
        refine zw_42 zr_4_17 ?_
        exact zw_less (L := [(2, 51), (0, a0), (0, (i1 + 1)), (0, 10)]) ⟨Or.inr rfl, Or.inr rfl, Or.inr rfl, Or.inr rfl, trivial⟩ (ihlp5_3 ((i1 + 1)) m7 hIm7 hFm7   (by omega) (by omega) (by omega))
  exact lp5_3 _ (0) m0 hI0 hF0   (by omega) (by omega) (Nat.lt_succ_self _)

abbrev W_25 : List (Nat × Nat) := [(44, 1000), (50, 1000), (51, 1000)]
set_option maxHeartbeats 8000000 in
theorem th_25 {E : zE} {d : Nat} {m0 : zM} {a0 : Int} {a1 : Int} {a2 : Int} (hd : 1 ≤ d) (hI0 : zInv m0) (ha0 : 0 ≤ a0 ∧ a0 ≤ 9) (ha1 : (-2147483648) ≤ a1 ∧ a1 ≤ 2147483647) (ha2 : 0 ≤ a2 ∧ a2 ≤ 99) : zC E d 25 [(2, 43), (0, a0), (0, a1), (0, a2)] m0 (fun v m' => v = (9, 0) ∧ zInv m' ∧ zFr W_25 m0 m') := by
  have hF0 : zFr W_25 m0 m0 := zFr.rfl
  generalize hQ : (fun (v : zV) (m' : zM) => v = (9, 0) ∧ zInv m' ∧ zFr W_25 m0 m') = Q
  show zW E d 25 0 [(2, 43), (0, a0), (0, a1), (0, a2)] [] m0 Q
  refine zw_7 zr_25_0 rfl ?_
  refine zw_46r (s := 44) zr_25_1 rfl rfl rfl rfl ?_
  refine zw_3 zr_25_4 rfl ?_
  refine zw_45 zr_25_5 ⟨rfl, rfl⟩ ?_
  refine zw_48 (c := 44) (len := 10) zr_25_6 rfl rfl (by omega) (by omega) ?_
  intro x1 ex1
  have bx1 := hI0.ra (c := 44) (len := 10) (k := (a0).toNat) rfl (by omega)
  rw [← ex1] at bx1
  clear ex1
  refine zw_3 zr_25_7 rfl ?_
  refine zw_16h zr_25_8 ?_
  intro x2 hx2a hx2b
  refine zw_49 (c := 44) (len := 10) zr_25_9 rfl rfl (by omega) (by omega) ?_
  intro m3 em3
  have hIm3 : zInv m3 := by rw [em3]; exact hI0.any (by omega) rfl (by decide) (by decide)
  have hFm3 : zFr W_25 m0 m3 := by rw [em3]; exact hF0.any rfl
  clear em3
  refine zw_7 zr_25_10 rfl ?_
  refine zw_46r (s := 50) zr_25_11 rfl rfl rfl rfl ?_
  refine zw_3 zr_25_14 rfl ?_
  refine zw_45 zr_25_15 ⟨rfl, rfl⟩ ?_
  refine zw_48 (c := 50) (len := 10) zr_25_16 rfl rfl (by omega) (by omega) ?_
  intro x4 ex4
  have bx4 := hIm3.ra (c := 50) (len := 10) (k := (a0).toNat) rfl (by omega)
  rw [← ex4] at bx4
  clear ex4
  refine zw_push zr_25_17 ?_
  refine zw_16h zr_25_18 ?_
  intro x5 hx5a hx5b
  refine zw_49 (c := 50) (len := 10) zr_25_19 rfl rfl (by omega) (by omega) ?_
  intro m6 em6
  have hIm6 : zInv m6 := by rw [em6]; exact hIm3.any (by omega) rfl (by decide) (by decide)
  have hFm6 : zFr W_25 m0 m6 := by rw [em6]; exact hFm3.any rfl
  clear em6
  refine zw_7 zr_25_20 rfl ?_
  refine zw_46r (s := 51) zr_25_21 rfl rfl rfl rfl ?_
  refine zw_3 zr_25_24 rfl ?_
  refine zw_3 zr_25_25 rfl ?_
  refine zw_49 (c := 51) (len := 10) zr_25_26 rfl rfl (by omega) (by omega) ?_
  intro m7 em7
  have hIm7 : zInv m7 := by rw [em7]; exact hIm6.any (by omega) rfl (by decide) (by decide)
  have hFm7 : zFr W_25 m0 m7 := by rw [em7]; exact hFm6.any rfl
  clear em7
  refine zw_R zr_25_27 (by decide) zm_25 (v := (9, 0)) rfl ?_
  rw [← hQ]; exact ⟨rfl, hIm7, hFm7⟩

abbrev W_164 : List (Nat × Nat) := [(76, 1000), (77, 1000), (78, 1000)]
set_option maxHeartbeats 8000000 in
theorem th_164 {E : zE} {d : Nat} {m0 : zM} {a0 : Int} (hd : 1 ≤ d) (hI0 : zInv m0) (ha0 : 0 ≤ a0 ∧ a0 ≤ 3) : zC E d 164 [(2, 69), (0, a0)] m0 (fun v m' => v = (9, 0) ∧ zInv m' ∧ zFr W_164 m0 m') := by
  have hF0 : zFr W_164 m0 m0 := zFr.rfl
  generalize hQ : (fun (v : zV) (m' : zM) => v = (9, 0) ∧ zInv m' ∧ zFr W_164 m0 m') = Q
  show zW E d 164 0 [(2, 69), (0, a0), (9, 0)] [] m0 Q
  refine zw_push zr_164_0 ?_
  refine zw_9 (L' := [(2, 69), (0, a0), (0, 0)]) zr_164_1 (Nat.le_of_ble_eq_true rfl) rfl ?_
  have lp2_3 : ∀ (nlp2_3 : Nat) (i1 : Int) (m2 : zM), zInv m2 → zFr W_164 m0 m2 → 0 ≤ i1 → i1 ≤ 10 → (10 - i1).toNat < nlp2_3 → zW E (d) 164 2 [(2, 69), (0, a0), (0, i1)] [] m2 Q := by
    intro nlp2_3
    induction nlp2_3 with
    | zero =>
      intros
      exact absurd (by assumption : _ < 0) (Nat.not_lt_zero _)
    | succ nlp2_3 ihlp2_3 =>
      intro i1 m2 hIm2 hFm2 li1 ui1 hmlp2_3
      refine zw_3 zr_164_2 rfl ?_
      refine zw_push zr_164_3 ?_
      refine zw_41_3 zr_164_5 ?_ ?_
      · intro h5
        refine zw_R zr_164_47 (by decide) zm_164 (v := (9, 0)) rfl ?_
        rw [← hQ]; exact ⟨rfl, hIm2, hFm2⟩
      · intro h6
        refine zw_7 zr_164_8 rfl ?_
        refine zw_46r (s := 76) zr_164_9 rfl rfl rfl rfl ?_
        refine zw_3 zr_164_12 rfl ?_
        refine zw_7 zr_164_13 rfl ?_
        refine zw_46r (s := 70) zr_164_14 rfl rfl rfl rfl ?_
        refine zw_push zr_164_17 ?_
        refine zw_push zr_164_20 ?_
        refine zw_3 zr_164_22 rfl ?_
        refine zw_18 zr_164_23 (by omega) ?_
        refine zw_16 zr_164_24 (by omega) ?_
        refine zw_48 (c := 70) (len := 826) zr_164_25 rfl rfl (by omega) (by omega) ?_
        intro x7 ex7
        have bx7 := ib_70_s0 hIm2 (k := ((450 + (52 * a0))).toNat) (by omega)
        rw [← ex7] at bx7
        clear ex7
        refine zw_49 (c := 76) (len := 10) zr_164_26 rfl rfl (by omega) (by omega) ?_
        intro m8 em8
        have hIm8 : zInv m8 := by rw [em8]; exact hIm2.any (by omega) rfl (by decide) (by decide)
        have hFm8 : zFr W_164 m0 m8 := by rw [em8]; exact hFm2.any rfl
        clear em8
        refine zw_7 zr_164_27 rfl ?_
        refine zw_46r (s := 77) zr_164_28 rfl rfl rfl rfl ?_
        refine zw_3 zr_164_31 rfl ?_
        refine zw_push zr_164_32 ?_
        refine zw_49 (c := 77) (len := 10) zr_164_33 rfl rfl (by omega) (by omega) ?_
        intro m9 em9
        have hIm9 : zInv m9 := by rw [em9]; exact hIm8.any (by omega) rfl (by decide) (by decide)
        have hFm9 : zFr W_164 m0 m9 := by rw [em9]; exact hFm8.any rfl
        clear em9
        refine zw_7 zr_164_34 rfl ?_
        refine zw_46r (s := 78) zr_164_35 rfl rfl rfl rfl ?_
        refine zw_3 zr_164_38 rfl ?_
        refine zw_push zr_164_39 ?_
        refine zw_49 (c := 78) (len := 10) zr_164_40 rfl rfl (by omega) (by omega) ?_
        intro m10 em10
        have hIm10 : zInv m10 := by rw [em10]; exact hIm9.any (by omega) rfl (by decide) (by decide)
        have hFm10 : zFr W_164 m0 m10 := by rw [em10]; exact hFm9.any rfl
        clear em10
        refine zw_15 (c := 1) (L' := [(2, 69), (0, a0), (0, (i1 + 1))]) zr_164_41 rfl (by decide) (by omega) rfl ?_
        refine zw_42 zr_164_44 ?_
        exact zw_less (L := [(2, 69), (0, a0), (0, (i1 + 1))]) ⟨Or.inr rfl, Or.inr rfl, Or.inr rfl, trivial⟩ (ihlp2_3 ((i1 + 1)) m10 hIm10 hFm10   (by omega) (by omega) (by omega))
  exact lp2_3 _ (0) m0 hI0 hF0   (by omega) (by omega) (Nat.lt_succ_self _)

abbrev W_165 : List (Nat × Nat) := [(69, 6), (69, 7), (69, 9), (69, 11), (69, 13), (73, 1000), (74, 1000), (75, 1000)]
set_option maxHeartbeats 8000000 in
theorem th_165 {E : zE} {d : Nat} {m0 : zM} {a0 : Int} {a1 : Int} {a2 : Int} {a3 : Int} (hd : 7 ≤ d) (hI0 : zInv m0) (ha0 : 0 ≤ a0 ∧ a0 ≤ 59) (ha1 : 0 ≤ a1 ∧ a1 ≤ 9) (ha2 : 0 ≤ a2 ∧ a2 ≤ 9) (ha3 : 0 ≤ a3 ∧ a3 ≤ 2) : zC E d 165 [(2, 69), (0, a0), (0, a1), (0, a2), (0, a3)] m0 (fun v m' => ∃ r : Int, v = (0, r) ∧ (-2147483648) ≤ r ∧ r ≤ 2147483647 ∧ zInv m' ∧ zFr W_165 m0 m') := by
  have hF0 : zFr W_165 m0 m0 := zFr.rfl
  generalize hQ : (fun (v : zV) (m' : zM) => ∃ r : Int, v = (0, r) ∧ (-2147483648) ≤ r ∧ r ≤ 2147483647 ∧ zInv m' ∧ zFr W_165 m0 m') = Q
  show zW E d 165 0 [(2, 69), (0, a0), (0, a1), (0, a2), (0, a3)] [] m0 Q
  refine zw_7 zr_165_0 rfl ?_
  refine zw_46r (s := 75) zr_165_1 rfl rfl rfl rfl ?_
  refine zw_push zr_165_4 ?_
  refine zw_7 zr_165_5 rfl ?_
  refine zw_46r (s := 76) zr_165_6 rfl rfl rfl rfl ?_
  refine zw_3 zr_165_9 rfl ?_
  refine zw_48 (c := 76) (len := 10) zr_165_10 rfl rfl (by omega) (by omega) ?_
  intro x1 ex1
  have bx1 := hI0.ra (c := 76) (len := 10) (k := (a1).toNat) rfl (by omega)
  rw [← ex1] at bx1
  clear ex1
  refine zw_36 zr_165_11 ?_
  refine zw_51 (c := 75) (len := 6) zr_165_12 rfl rfl (by omega) (by omega) ?_
  intro m2 em2
  have hIm2 : zInv m2 := by rw [em2]; exact hI0.anyl (by omega) (zK3 rfl) rfl (by decide) (by decide)
  have hFm2 : zFr W_165 m0 m2 := by rw [em2]; exact hF0.any rfl
  clear em2
  refine zw_7 zr_165_13 rfl ?_
  refine zw_46r (s := 75) zr_165_14 rfl rfl rfl rfl ?_
  refine zw_push zr_165_17 ?_
  refine zw_7 zr_165_18 rfl ?_
  refine zw_46r (s := 76) zr_165_19 rfl rfl rfl rfl ?_
  refine zw_3 zr_165_22 rfl ?_
  refine zw_48 (c := 76) (len := 10) zr_165_23 rfl rfl (by omega) (by omega) ?_
  intro x3 ex3
  have bx3 := hIm2.ra (c := 76) (len := 10) (k := (a2).toNat) rfl (by omega)
  rw [← ex3] at bx3
  clear ex3
  refine zw_36 zr_165_24 ?_
  refine zw_51 (c := 75) (len := 6) zr_165_25 rfl rfl (by omega) (by omega) ?_
  intro m4 em4
  have hIm4 : zInv m4 := by rw [em4]; exact hIm2.anyl (by omega) (zK3 rfl) rfl (by decide) (by decide)
  have hFm4 : zFr W_165 m0 m4 := by rw [em4]; exact hFm2.any rfl
  clear em4
  refine zw_7 zr_165_26 rfl ?_
  refine zw_46r (s := 75) zr_165_27 rfl rfl rfl rfl ?_
  refine zw_push zr_165_30 ?_
  refine zw_4 zr_165_31 rfl ?_
  refine zw_36 zr_165_33 ?_
  refine zw_51 (c := 75) (len := 6) zr_165_34 rfl rfl (by omega) (by omega) ?_
  intro m5 em5
  have hIm5 : zInv m5 := by rw [em5]; exact hIm4.anyl (by omega) (zK3 rfl) rfl (by decide) (by decide)
  have hFm5 : zFr W_165 m0 m5 := by rw [em5]; exact hFm4.any rfl
  clear em5
  refine zw_7 zr_165_35 rfl ?_
  refine zw_46r (s := 75) zr_165_36 rfl rfl rfl rfl ?_
  refine zw_push zr_165_39 ?_
  refine zw_7 zr_165_40 rfl ?_
  refine zw_46r (s := 77) zr_165_41 rfl rfl rfl rfl ?_
  refine zw_3 zr_165_44 rfl ?_
  refine zw_48 (c := 77) (len := 10) zr_165_45 rfl rfl (by omega) (by omega) ?_
  intro x6 ex6
  have bx6 := hIm5.ra (c := 77) (len := 10) (k := (a1).toNat) rfl (by omega)
  rw [← ex6] at bx6
  clear ex6
  refine zw_36 zr_165_46 ?_
  refine zw_51 (c := 75) (len := 6) zr_165_47 rfl rfl (by omega) (by omega) ?_
  intro m7 em7
  have hIm7 : zInv m7 := by rw [em7]; exact hIm5.anyl (by omega) (zK3 rfl) rfl (by decide) (by decide)
  have hFm7 : zFr W_165 m0 m7 := by rw [em7]; exact hFm5.any rfl
  clear em7
  refine zw_7 zr_165_48 rfl ?_
  refine zw_46r (s := 75) zr_165_49 rfl rfl rfl rfl ?_
  refine zw_push zr_165_52 ?_
  refine zw_7 zr_165_53 rfl ?_
  refine zw_46r (s := 78) zr_165_54 rfl rfl rfl rfl ?_
  refine zw_3 zr_165_57 rfl ?_
  refine zw_48 (c := 78) (len := 10) zr_165_58 rfl rfl (by omega) (by omega) ?_
  intro x8 ex8
  have bx8 := hIm7.ra (c := 78) (len := 10) (k := (a1).toNat) rfl (by omega)
  rw [← ex8] at bx8
  refine zw_push zr_165_59 ?_
  refine zw_41_4 zr_165_60 ?_ ?_
  · intro h9
    refine zw_7 zr_165_67 rfl ?_
    refine zw_3 zr_165_68 rfl ?_
    refine zw_push zr_165_69 ?_
    refine zw_C zr_165_70 (Or.inl rfl) zm_144 rfl rfl ⟨Nat.le_of_ble_eq_true rfl, Nat.le_of_ble_eq_true rfl, Nat.le_of_ble_eq_true rfl, rfl, by decide⟩ (by omega) (P := (fun v m' => zW E (d) 165 73 [(2, 69), (0, a0), (0, a1), (0, a2), (0, a3)] (if v.1 = 9 then [(0, 4), (2, 75)] else v :: [(0, 4), (2, 75)]) m' Q)) ?_ (fun _ _ h => h)
    generalize hQ1 : (fun v m' => zW E (d) 165 73 [(2, 69), (0, a0), (0, a1), (0, a2), (0, a3)] (if v.1 = 9 then [(0, 4), (2, 75)] else v :: [(0, 4), (2, 75)]) m' Q) = Q1
    show zW E (d - 1) 144 0 [(2, 69), (0, a0), (0, 0)] [] m7 Q1
    refine zw_7 zr_144_0 rfl ?_
    refine zw_46r (s := 70) zr_144_1 rfl rfl rfl rfl ?_
    refine zw_push zr_144_4 ?_
    refine zw_push zr_144_6 ?_
    refine zw_3 zr_144_8 rfl ?_
    refine zw_18 zr_144_9 (by omega) ?_
    refine zw_16 zr_144_10 (by omega) ?_
    refine zw_3 zr_144_11 rfl ?_
    refine zw_16 zr_144_12 (by omega) ?_
    refine zw_48 (c := 70) (len := 826) zr_144_13 rfl rfl (by omega) (by omega) ?_
    intro x10 ex10
    have bx10 := ib_70_m0 hIm7 (k := (((90 + (6 * a0)) + 0)).toNat) (by omega)
    rw [← ex10] at bx10
    clear ex10
    refine zw_R zr_144_14 (by decide) zm_144 (v := (0, x10)) rfl ?_
    rw [← hQ1]
    show zW E (d) 165 73 [(2, 69), (0, a0), (0, a1), (0, a2), (0, a3)] [(0, x10), (0, 4), (2, 75)] m7 Q
    refine zw_7 zr_165_73 rfl ?_
    refine zw_46r (s := 78) zr_165_74 rfl rfl rfl rfl ?_
    refine zw_3 zr_165_77 rfl ?_
    refine zw_48k (c := 78) (len := 10) zr_165_78 rfl rfl (by omega) (by omega) rfl ex8.symm ?_
    refine zw_17h zr_165_79 ?_
    intro x11 hx11a hx11b
    refine zw_36 zr_165_80 ?_
    refine zw_51 (c := 75) (len := 6) zr_165_81 rfl rfl (by omega) (by omega) ?_
    intro m12 em12
    have hIm12 : zInv m12 := by rw [em12]; exact hIm7.anyl (by omega) (zK3 rfl) rfl (by decide) (by decide)
    have hFm12 : zFr W_165 m0 m12 := by rw [em12]; exact hFm7.any rfl
    clear em12
    refine zw_7 zr_165_82 rfl ?_
    refine zw_46r (s := 75) zr_165_83 rfl rfl rfl rfl ?_
    refine zw_push zr_165_86 ?_
    refine zw_7 zr_165_87 rfl ?_
    refine zw_3 zr_165_88 rfl ?_
    refine zw_push zr_165_89 ?_
    refine zw_C zr_165_90 (Or.inl rfl) zm_144 rfl rfl ⟨Nat.le_of_ble_eq_true rfl, Nat.le_of_ble_eq_true rfl, Nat.le_of_ble_eq_true rfl, rfl, by decide⟩ (by omega) (P := (fun v m' => zW E (d) 165 93 [(2, 69), (0, a0), (0, a1), (0, a2), (0, a3)] (if v.1 = 9 then [(0, 5), (2, 75)] else v :: [(0, 5), (2, 75)]) m' Q)) ?_ (fun _ _ h => h)
    generalize hQ1 : (fun v m' => zW E (d) 165 93 [(2, 69), (0, a0), (0, a1), (0, a2), (0, a3)] (if v.1 = 9 then [(0, 5), (2, 75)] else v :: [(0, 5), (2, 75)]) m' Q) = Q1
    show zW E (d - 1) 144 0 [(2, 69), (0, a0), (0, 4)] [] m12 Q1
    refine zw_7 zr_144_0 rfl ?_
    refine zw_46r (s := 70) zr_144_1 rfl rfl rfl rfl ?_
    refine zw_push zr_144_4 ?_
    refine zw_push zr_144_6 ?_
    refine zw_3 zr_144_8 rfl ?_
    refine zw_18 zr_144_9 (by omega) ?_
    refine zw_16 zr_144_10 (by omega) ?_
    refine zw_3 zr_144_11 rfl ?_
    refine zw_16 zr_144_12 (by omega) ?_
    refine zw_48 (c := 70) (len := 826) zr_144_13 rfl rfl (by omega) (by omega) ?_
    intro x13 ex13
    have bx13 := ib_70_m4 hIm12 (k := (((90 + (6 * a0)) + 4)).toNat) (by omega)
    rw [← ex13] at bx13
    clear ex13
    refine zw_R zr_144_14 (by decide) zm_144 (v := (0, x13)) rfl ?_
    rw [← hQ1]
    show zW E (d) 165 93 [(2, 69), (0, a0), (0, a1), (0, a2), (0, a3)] [(0, x13), (0, 5), (2, 75)] m12 Q
    refine zw_36 zr_165_93 ?_
    refine zw_51 (c := 75) (len := 6) zr_165_94 rfl rfl (by omega) (by omega) ?_
    intro m14 em14
    have hIm14 : zInv m14 := by rw [em14]; exact hIm12.anyl (by omega) (zK3 rfl) rfl (by decide) (by decide)
    have hFm14 : zFr W_165 m0 m14 := by rw [em14]; exact hFm12.any rfl
    clear em14
    refine zw_7 zr_165_95 rfl ?_
    refine zw_C zr_165_96 (Or.inl rfl) zm_161 rfl rfl ⟨Nat.le_of_ble_eq_true rfl, Nat.le_of_ble_eq_true rfl, Nat.le_of_ble_eq_true rfl, rfl, by decide⟩ (by omega) (th_161 (d := d - 1) (by omega) hIm14    ) ?_
    rintro _ m15 ⟨r16, rfl, hr16a, hr16b, hIm15, gm15⟩
    have hFm15 : zFr W_165 m0 m15 := hFm14.trans gm15 rfl
    show zW E (d) 165 99 [(2, 69), (0, a0), (0, a1), (0, a2), (0, a3)] [(0, r16)] m15 Q
    refine zw_40_4 zr_165_99 ?_ ?_
    · intro h17
      refine zw_7 zr_165_104 rfl ?_
      obtain ⟨f18, ef18⟩ : ∃ v, m15 69 13 = v := ⟨_, rfl⟩
      have bf18 := hIm15.fl (c := 69) (k := 13) rfl
      rw [ef18] at bf18
      refine zw_46l zr_165_105 ef18 rfl rfl rfl ?_
      refine zw_push zr_165_108 ?_
      refine zw_39_3 zr_165_111 zr_165_112 ?_ ?_
      · intro h19
        refine zw_7 zr_165_121 rfl ?_
        refine zw_46l zr_165_122 ef18 rfl rfl rfl ?_
        refine zw_push zr_165_125 ?_
        refine zw_39_5 zr_165_128 zr_165_129 ?_ ?_
        · intro h20
          refine zw_7 zr_165_138 rfl ?_
          refine zw_46l zr_165_139 ef18 rfl rfl rfl ?_
          refine zw_37h zr_165_142 ?_
          intro x21 hx21a hx21b
          refine zw_R zr_165_143 (by decide) zm_165 (v := (0, x21)) rfl ?_
          rw [← hQ]; exact ⟨_, rfl, by omega, by omega, hIm15, hFm15⟩
        · intro h22
          refine zw_push zr_165_132 ?_
          refine zw_42 zr_165_135 ?_
          refine zw_37h zr_165_142 ?_
          intro x23 hx23a hx23b
          refine zw_R zr_165_143 (by decide) zm_165 (v := (0, x23)) rfl ?_
          rw [← hQ]; exact ⟨_, rfl, by omega, by omega, hIm15, hFm15⟩
      · intro h24
        refine zw_push zr_165_115 ?_
        refine zw_42 zr_165_118 ?_
        refine zw_37h zr_165_142 ?_
        intro x25 hx25a hx25b
        refine zw_R zr_165_143 (by decide) zm_165 (v := (0, x25)) rfl ?_
        rw [← hQ]; exact ⟨_, rfl, by omega, by omega, hIm15, hFm15⟩
    · intro h26
      refine zw_push zr_165_102 ?_
      refine zw_R zr_165_103 (by decide) zm_165 (v := (0, 0)) rfl ?_
      rw [← hQ]; exact ⟨_, rfl, by omega, by omega, hIm15, hFm15⟩
  · intro h27
    refine zw_push zr_165_63 ?_
    refine zw_42 zr_165_64 ?_
    refine zw_51 (c := 75) (len := 6) zr_165_81 rfl rfl (by omega) (by omega) ?_
    intro m28 em28
    have hIm28 : zInv m28 := by rw [em28]; exact hIm7.anyl (by omega) (zK3 rfl) rfl (by decide) (by decide)
    have hFm28 : zFr W_165 m0 m28 := by rw [em28]; exact hFm7.any rfl
    clear em28
    refine zw_7 zr_165_82 rfl ?_
    refine zw_46r (s := 75) zr_165_83 rfl rfl rfl rfl ?_
    refine zw_push zr_165_86 ?_
    refine zw_7 zr_165_87 rfl ?_
    refine zw_3 zr_165_88 rfl ?_
    refine zw_push zr_165_89 ?_
    refine zw_C zr_165_90 (Or.inl rfl) zm_144 rfl rfl ⟨Nat.le_of_ble_eq_true rfl, Nat.le_of_ble_eq_true rfl, Nat.le_of_ble_eq_true rfl, rfl, by decide⟩ (by omega) (P := (fun v m' => zW E (d) 165 93 [(2, 69), (0, a0), (0, a1), (0, a2), (0, a3)] (if v.1 = 9 then [(0, 5), (2, 75)] else v :: [(0, 5), (2, 75)]) m' Q)) ?_ (fun _ _ h => h)
    generalize hQ1 : (fun v m' => zW E (d) 165 93 [(2, 69), (0, a0), (0, a1), (0, a2), (0, a3)] (if v.1 = 9 then [(0, 5), (2, 75)] else v :: [(0, 5), (2, 75)]) m' Q) = Q1
    show zW E (d - 1) 144 0 [(2, 69), (0, a0), (0, 4)] [] m28 Q1
    refine zw_7 zr_144_0 rfl ?_
    refine zw_46r (s := 70) zr_144_1 rfl rfl rfl rfl ?_
    refine zw_push zr_144_4 ?_
    refine zw_push zr_144_6 ?_
    refine zw_3 zr_144_8 rfl ?_
    refine zw_18 zr_144_9 (by omega) ?_
    refine zw_16 zr_144_10 (by omega) ?_
    refine zw_3 zr_144_11 rfl ?_
    refine zw_16 zr_144_12 (by omega) ?_
    refine zw_48 (c := 70) (len := 826) zr_144_13 rfl rfl (by omega) (by omega) ?_
    intro x29 ex29
    have bx29 := ib_70_m4 hIm28 (k := (((90 + (6 * a0)) + 4)).toNat) (by omega)
    rw [← ex29] at bx29
    clear ex29
    refine zw_R zr_144_14 (by decide) zm_144 (v := (0, x29)) rfl ?_
    rw [← hQ1]
    show zW E (d) 165 93 [(2, 69), (0, a0), (0, a1), (0, a2), (0, a3)] [(0, x29), (0, 5), (2, 75)] m28 Q
    refine zw_36 zr_165_93 ?_
    refine zw_51 (c := 75) (len := 6) zr_165_94 rfl rfl (by omega) (by omega) ?_
    intro m30 em30
    have hIm30 : zInv m30 := by rw [em30]; exact hIm28.anyl (by omega) (zK3 rfl) rfl (by decide) (by decide)
    have hFm30 : zFr W_165 m0 m30 := by rw [em30]; exact hFm28.any rfl
    clear em30
    refine zw_7 zr_165_95 rfl ?_
    refine zw_C zr_165_96 (Or.inl rfl) zm_161 rfl rfl ⟨Nat.le_of_ble_eq_true rfl, Nat.le_of_ble_eq_true rfl, Nat.le_of_ble_eq_true rfl, rfl, by decide⟩ (by omega) (th_161 (d := d - 1) (by omega) hIm30    ) ?_
    rintro _ m31 ⟨r32, rfl, hr32a, hr32b, hIm31, gm31⟩
    have hFm31 : zFr W_165 m0 m31 := hFm30.trans gm31 rfl
    show zW E (d) 165 99 [(2, 69), (0, a0), (0, a1), (0, a2), (0, a3)] [(0, r32)] m31 Q
    refine zw_40_4 zr_165_99 ?_ ?_
    · intro h33
      refine zw_7 zr_165_104 rfl ?_
      obtain ⟨f34, ef34⟩ : ∃ v, m31 69 13 = v := ⟨_, rfl⟩
      have bf34 := hIm31.fl (c := 69) (k := 13) rfl
      rw [ef34] at bf34
      refine zw_46l zr_165_105 ef34 rfl rfl rfl ?_
      refine zw_push zr_165_108 ?_
      refine zw_39_3 zr_165_111 zr_165_112 ?_ ?_
      · intro h35
        refine zw_7 zr_165_121 rfl ?_
        refine zw_46l zr_165_122 ef34 rfl rfl rfl ?_
        refine zw_push zr_165_125 ?_
        refine zw_39_5 zr_165_128 zr_165_129 ?_ ?_
        · intro h36
          refine zw_7 zr_165_138 rfl ?_
          refine zw_46l zr_165_139 ef34 rfl rfl rfl ?_
          refine zw_37h zr_165_142 ?_
          intro x37 hx37a hx37b
          refine zw_R zr_165_143 (by decide) zm_165 (v := (0, x37)) rfl ?_
          rw [← hQ]; exact ⟨_, rfl, by omega, by omega, hIm31, hFm31⟩
        · intro h38
          refine zw_push zr_165_132 ?_
          refine zw_42 zr_165_135 ?_
          refine zw_37h zr_165_142 ?_
          intro x39 hx39a hx39b
          refine zw_R zr_165_143 (by decide) zm_165 (v := (0, x39)) rfl ?_
          rw [← hQ]; exact ⟨_, rfl, by omega, by omega, hIm31, hFm31⟩
      · intro h40
        refine zw_push zr_165_115 ?_
        refine zw_42 zr_165_118 ?_
        refine zw_37h zr_165_142 ?_
        intro x41 hx41a hx41b
        refine zw_R zr_165_143 (by decide) zm_165 (v := (0, x41)) rfl ?_
        rw [← hQ]; exact ⟨_, rfl, by omega, by omega, hIm31, hFm31⟩
    · intro h42
      refine zw_push zr_165_102 ?_
      refine zw_R zr_165_103 (by decide) zm_165 (v := (0, 0)) rfl ?_
      rw [← hQ]; exact ⟨_, rfl, by omega, by omega, hIm31, hFm31⟩

abbrev W_166 : List (Nat × Nat) := [(69, 5), (69, 6), (69, 7), (69, 9), (69, 11), (69, 13), (69, 17), (69, 18), (73, 1000), (74, 1000), (75, 1000), (76, 1000), (77, 1000), (78, 1000)]
set_option maxHeartbeats 8000000 in
theorem th_166 {E : zE} {d : Nat} {m0 : zM} {a0 : Int} {a1 : Int} (hd : 8 ≤ d) (hI0 : zInv m0) (ha0 : 0 ≤ a0 ∧ a0 ≤ 3) (ha1 : 0 ≤ a1 ∧ a1 ≤ 59) : zC E d 166 [(2, 69), (0, a0), (0, a1)] m0 (fun v m' => v = (9, 0) ∧ zInv m' ∧ zFr W_166 m0 m') := by
  have hF0 : zFr W_166 m0 m0 := zFr.rfl
  generalize hQ : (fun (v : zV) (m' : zM) => v = (9, 0) ∧ zInv m' ∧ zFr W_166 m0 m') = Q
  show zW E d 166 0 [(2, 69), (0, a0), (0, a1), (9, 0), (9, 0)] [] m0 Q
  refine zw_7 zr_166_0 rfl ?_
  refine zw_3 zr_166_1 rfl ?_
  refine zw_47 (c := 69) zr_166_2 rfl ⟨rfl, by decide, rfl⟩ ?_
  intro m1 em1
  have hIm1 : zInv m1 := by rw [em1]; exact hI0.bd (r := 69) (k := 5) (lo := 0) (hi := 3) rfl (by omega) (by decide) (by decide) (by decide)
  have hFm1 : zFr W_166 m0 m1 := by rw [em1]; exact hF0.up rfl
  have km1_69_5 : m1 69 5 = a0 := by rw [em1]; exact zUp_eq _ _ _ _
  clear em1
  refine zw_7 zr_166_5 rfl ?_
  refine zw_3 zr_166_6 rfl ?_
  refine zw_push zr_166_7 ?_
  refine zw_C zr_166_8 (Or.inl rfl) zm_144 rfl rfl ⟨Nat.le_of_ble_eq_true rfl, Nat.le_of_ble_eq_true rfl, Nat.le_of_ble_eq_true rfl, rfl, by decide⟩ (by omega) (P := (fun v m' => zW E (d) 166 11 [(2, 69), (0, a0), (0, a1), (9, 0), (9, 0)] (if v.1 = 9 then [] else v :: []) m' Q)) ?_ (fun _ _ h => h)
  generalize hQ1 : (fun v m' => zW E (d) 166 11 [(2, 69), (0, a0), (0, a1), (9, 0), (9, 0)] (if v.1 = 9 then [] else v :: []) m' Q) = Q1
  show zW E (d - 1) 144 0 [(2, 69), (0, a1), (0, 1)] [] m1 Q1
  refine zw_7 zr_144_0 rfl ?_
  refine zw_46r (s := 70) zr_144_1 rfl rfl rfl rfl ?_
  refine zw_push zr_144_4 ?_
  refine zw_push zr_144_6 ?_
  refine zw_3 zr_144_8 rfl ?_
  refine zw_18 zr_144_9 (by omega) ?_
  refine zw_16 zr_144_10 (by omega) ?_
  refine zw_3 zr_144_11 rfl ?_
  refine zw_16 zr_144_12 (by omega) ?_
  refine zw_48 (c := 70) (len := 826) zr_144_13 rfl rfl (by omega) (by omega) ?_
  intro x2 ex2
  have bx2 := ib_70_m1 hIm1 (k := (((90 + (6 * a1)) + 1)).toNat) (by omega)
  rw [← ex2] at bx2
  clear ex2
  refine zw_R zr_144_14 (by decide) zm_144 (v := (0, x2)) rfl ?_
  rw [← hQ1]
  show zW E (d) 166 11 [(2, 69), (0, a0), (0, a1), (9, 0), (9, 0)] [(0, x2)] m1 Q
  refine zw_9 (L' := [(2, 69), (0, a0), (0, a1), (0, x2), (9, 0)]) zr_166_11 (Nat.le_of_ble_eq_true rfl) rfl ?_
  refine zw_7 zr_166_12 rfl ?_
  refine zw_3 zr_166_13 rfl ?_
  refine zw_push zr_166_14 ?_
  refine zw_C zr_166_15 (Or.inl rfl) zm_144 rfl rfl ⟨Nat.le_of_ble_eq_true rfl, Nat.le_of_ble_eq_true rfl, Nat.le_of_ble_eq_true rfl, rfl, by decide⟩ (by omega) (P := (fun v m' => zW E (d) 166 18 [(2, 69), (0, a0), (0, a1), (0, x2), (9, 0)] (if v.1 = 9 then [] else v :: []) m' Q)) ?_ (fun _ _ h => h)
  generalize hQ1 : (fun v m' => zW E (d) 166 18 [(2, 69), (0, a0), (0, a1), (0, x2), (9, 0)] (if v.1 = 9 then [] else v :: []) m' Q) = Q1
  show zW E (d - 1) 144 0 [(2, 69), (0, a1), (0, 2)] [] m1 Q1
  refine zw_7 zr_144_0 rfl ?_
  refine zw_46r (s := 70) zr_144_1 rfl rfl rfl rfl ?_
  refine zw_push zr_144_4 ?_
  refine zw_push zr_144_6 ?_
  refine zw_3 zr_144_8 rfl ?_
  refine zw_18 zr_144_9 (by omega) ?_
  refine zw_16 zr_144_10 (by omega) ?_
  refine zw_3 zr_144_11 rfl ?_
  refine zw_16 zr_144_12 (by omega) ?_
  refine zw_48 (c := 70) (len := 826) zr_144_13 rfl rfl (by omega) (by omega) ?_
  intro x3 ex3
  have bx3 := ib_70_m2 hIm1 (k := (((90 + (6 * a1)) + 2)).toNat) (by omega)
  rw [← ex3] at bx3
  clear ex3
  refine zw_R zr_144_14 (by decide) zm_144 (v := (0, x3)) rfl ?_
  rw [← hQ1]
  show zW E (d) 166 18 [(2, 69), (0, a0), (0, a1), (0, x2), (9, 0)] [(0, x3)] m1 Q
  refine zw_10 (L' := [(2, 69), (0, a0), (0, a1), (0, x2), (0, x3)]) zr_166_18 (Nat.le_of_ble_eq_true rfl) rfl ?_
  refine zw_7 zr_166_20 rfl ?_
  refine zw_7 zr_166_21 rfl ?_
  refine zw_3 zr_166_22 rfl ?_
  refine zw_3 zr_166_23 rfl ?_
  refine zw_4 zr_166_24 rfl ?_
  refine zw_7 zr_166_26 rfl ?_
  refine zw_3 zr_166_27 rfl ?_
  refine zw_push zr_166_28 ?_
  refine zw_C zr_166_29 (Or.inl rfl) zm_144 rfl rfl ⟨Nat.le_of_ble_eq_true rfl, Nat.le_of_ble_eq_true rfl, Nat.le_of_ble_eq_true rfl, rfl, by decide⟩ (by omega) (P := (fun v m' => zW E (d) 166 32 [(2, 69), (0, a0), (0, a1), (0, x2), (0, x3)] (if v.1 = 9 then [(0, x3), (0, x2), (0, a1), (2, 69), (2, 69)] else v :: [(0, x3), (0, x2), (0, a1), (2, 69), (2, 69)]) m' Q)) ?_ (fun _ _ h => h)
  generalize hQ1 : (fun v m' => zW E (d) 166 32 [(2, 69), (0, a0), (0, a1), (0, x2), (0, x3)] (if v.1 = 9 then [(0, x3), (0, x2), (0, a1), (2, 69), (2, 69)] else v :: [(0, x3), (0, x2), (0, a1), (2, 69), (2, 69)]) m' Q) = Q1
  show zW E (d - 1) 144 0 [(2, 69), (0, a1), (0, 3)] [] m1 Q1
  refine zw_7 zr_144_0 rfl ?_
  refine zw_46r (s := 70) zr_144_1 rfl rfl rfl rfl ?_
  refine zw_push zr_144_4 ?_
  refine zw_push zr_144_6 ?_
  refine zw_3 zr_144_8 rfl ?_
  refine zw_18 zr_144_9 (by omega) ?_
  refine zw_16 zr_144_10 (by omega) ?_
  refine zw_3 zr_144_11 rfl ?_
  refine zw_16 zr_144_12 (by omega) ?_
  refine zw_48 (c := 70) (len := 826) zr_144_13 rfl rfl (by omega) (by omega) ?_
  intro x4 ex4
  have bx4 := ib_70_m3 hIm1 (k := (((90 + (6 * a1)) + 3)).toNat) (by omega)
  rw [← ex4] at bx4
  clear ex4
  refine zw_R zr_144_14 (by decide) zm_144 (v := (0, x4)) rfl ?_
  rw [← hQ1]
  show zW E (d) 166 32 [(2, 69), (0, a0), (0, a1), (0, x2), (0, x3)] [(0, x4), (0, x3), (0, x2), (0, a1), (2, 69), (2, 69)] m1 Q
  refine zw_C zr_166_32 (Or.inl rfl) zm_165 rfl rfl ⟨Nat.le_of_ble_eq_true rfl, Nat.le_of_ble_eq_true rfl, Nat.le_of_ble_eq_true rfl, rfl, by decide⟩ (by omega) (th_165 (d := d - 1) (by omega) hIm1 (a0 := a1) (a1 := x2) (a2 := x3) (a3 := x4)   (by omega) (by omega) (by omega) (by omega)) ?_
  rintro _ m5 ⟨r6, rfl, hr6a, hr6b, hIm5, gm5⟩
  have hFm5 : zFr W_166 m0 m5 := hFm1.trans gm5 rfl
  have km5_69_5 : m5 69 5 = a0 := (gm5 69 5 rfl).trans km1_69_5
  show zW E (d) 166 35 [(2, 69), (0, a0), (0, a1), (0, x2), (0, x3)] [(0, r6), (2, 69)] m5 Q
  refine zw_47 (c := 69) zr_166_35 rfl ⟨rfl, by decide, rfl⟩ ?_
  intro m7 em7
  have hIm7 : zInv m7 := by rw [em7]; exact hIm5.any (by omega) rfl (by decide) (by decide)
  have hFm7 : zFr W_166 m0 m7 := by rw [em7]; exact hFm5.up rfl
  have km7_69_5 : m7 69 5 = a0 := by rw [em7, zUp_ne (by omega)]; exact km5_69_5
  have km7_69_17 : m7 69 17 = r6 := by rw [em7]; exact zUp_eq _ _ _ _
  clear em7
  refine zw_7 zr_166_38 rfl ?_
  refine zw_7 zr_166_39 rfl ?_
  refine zw_3 zr_166_40 rfl ?_
  refine zw_4 zr_166_41 rfl ?_
  refine zw_3 zr_166_43 rfl ?_
  refine zw_push zr_166_44 ?_
  refine zw_7 zr_166_45 rfl ?_
  refine zw_3 zr_166_46 rfl ?_
  refine zw_push zr_166_47 ?_
  refine zw_C zr_166_48 (Or.inl rfl) zm_144 rfl rfl ⟨Nat.le_of_ble_eq_true rfl, Nat.le_of_ble_eq_true rfl, Nat.le_of_ble_eq_true rfl, rfl, by decide⟩ (by omega) (P := (fun v m' => zW E (d) 166 51 [(2, 69), (0, a0), (0, a1), (0, x2), (0, x3)] (if v.1 = 9 then [(0, 2), (0, x2), (0, x3), (0, a1), (2, 69), (2, 69)] else v :: [(0, 2), (0, x2), (0, x3), (0, a1), (2, 69), (2, 69)]) m' Q)) ?_ (fun _ _ h => h)
  generalize hQ1 : (fun v m' => zW E (d) 166 51 [(2, 69), (0, a0), (0, a1), (0, x2), (0, x3)] (if v.1 = 9 then [(0, 2), (0, x2), (0, x3), (0, a1), (2, 69), (2, 69)] else v :: [(0, 2), (0, x2), (0, x3), (0, a1), (2, 69), (2, 69)]) m' Q) = Q1
  show zW E (d - 1) 144 0 [(2, 69), (0, a1), (0, 3)] [] m7 Q1
  refine zw_7 zr_144_0 rfl ?_
  refine zw_46r (s := 70) zr_144_1 rfl rfl rfl rfl ?_
  refine zw_push zr_144_4 ?_
  refine zw_push zr_144_6 ?_
  refine zw_3 zr_144_8 rfl ?_
  refine zw_18 zr_144_9 (by omega) ?_
  refine zw_16 zr_144_10 (by omega) ?_
  refine zw_3 zr_144_11 rfl ?_
  refine zw_16 zr_144_12 (by omega) ?_
  refine zw_48 (c := 70) (len := 826) zr_144_13 rfl rfl (by omega) (by omega) ?_
  intro x8 ex8
  have bx8 := ib_70_m3 hIm7 (k := (((90 + (6 * a1)) + 3)).toNat) (by omega)
  rw [← ex8] at bx8
  clear ex8
  refine zw_R zr_144_14 (by decide) zm_144 (v := (0, x8)) rfl ?_
  rw [← hQ1]
  show zW E (d) 166 51 [(2, 69), (0, a0), (0, a1), (0, x2), (0, x3)] [(0, x8), (0, 2), (0, x2), (0, x3), (0, a1), (2, 69), (2, 69)] m7 Q
  refine zw_17 zr_166_51 (by omega) ?_
  refine zw_C zr_166_52 (Or.inl rfl) zm_165 rfl rfl ⟨Nat.le_of_ble_eq_true rfl, Nat.le_of_ble_eq_true rfl, Nat.le_of_ble_eq_true rfl, rfl, by decide⟩ (by omega) (th_165 (d := d - 1) (by omega) hIm7 (a0 := a1) (a1 := x3) (a2 := x2) (a3 := (2 - x8))   (by omega) (by omega) (by omega) (by omega)) ?_
  rintro _ m9 ⟨r10, rfl, hr10a, hr10b, hIm9, gm9⟩
  have hFm9 : zFr W_166 m0 m9 := hFm7.trans gm9 rfl
  have km9_69_5 : m9 69 5 = a0 := (gm9 69 5 rfl).trans km7_69_5
  have km9_69_17 : m9 69 17 = r6 := (gm9 69 17 rfl).trans km7_69_17
  show zW E (d) 166 55 [(2, 69), (0, a0), (0, a1), (0, x2), (0, x3)] [(0, r10), (2, 69)] m9 Q
  refine zw_47 (c := 69) zr_166_55 rfl ⟨rfl, by decide, rfl⟩ ?_
  intro m11 em11
  have hIm11 : zInv m11 := by rw [em11]; exact hIm9.any (by omega) rfl (by decide) (by decide)
  have hFm11 : zFr W_166 m0 m11 := by rw [em11]; exact hFm9.up rfl
  have km11_69_5 : m11 69 5 = a0 := by rw [em11, zUp_ne (by omega)]; exact km9_69_5
  have km11_69_17 : m11 69 17 = r6 := by rw [em11, zUp_ne (by omega)]; exact km9_69_17
  have km11_69_18 : m11 69 18 = r10 := by rw [em11]; exact zUp_eq _ _ _ _
  clear em11
  refine zw_7 zr_166_58 rfl ?_
  refine zw_46r (s := 76) zr_166_59 rfl rfl rfl rfl ?_
  refine zw_3 zr_166_62 rfl ?_
  refine zw_45 zr_166_63 ⟨rfl, rfl⟩ ?_
  refine zw_48 (c := 76) (len := 10) zr_166_64 rfl rfl (by omega) (by omega) ?_
  intro x12 ex12
  have bx12 := hIm11.ra (c := 76) (len := 10) (k := (x2).toNat) rfl (by omega)
  rw [← ex12] at bx12
  clear ex12
  refine zw_7 zr_166_65 rfl ?_
  refine zw_46i zr_166_66 km11_69_17 rfl rfl rfl ?_
  refine zw_16h zr_166_69 ?_
  intro x13 hx13a hx13b
  refine zw_49 (c := 76) (len := 10) zr_166_70 rfl rfl (by omega) (by omega) ?_
  intro m14 em14
  have hIm14 : zInv m14 := by rw [em14]; exact hIm11.any (by omega) rfl (by decide) (by decide)
  have hFm14 : zFr W_166 m0 m14 := by rw [em14]; exact hFm11.any rfl
  have km14_69_5 : m14 69 5 = a0 := by rw [em14, zUp_ne (by omega)]; exact km11_69_5
  have km14_69_17 : m14 69 17 = r6 := by rw [em14, zUp_ne (by omega)]; exact km11_69_17
  have km14_69_18 : m14 69 18 = r10 := by rw [em14, zUp_ne (by omega)]; exact km11_69_18
  clear em14
  refine zw_7 zr_166_71 rfl ?_
  refine zw_46r (s := 76) zr_166_72 rfl rfl rfl rfl ?_
  refine zw_4 zr_166_75 rfl ?_
  refine zw_45 zr_166_77 ⟨rfl, rfl⟩ ?_
  refine zw_48 (c := 76) (len := 10) zr_166_78 rfl rfl (by omega) (by omega) ?_
  intro x15 ex15
  have bx15 := hIm14.ra (c := 76) (len := 10) (k := (x3).toNat) rfl (by omega)
  rw [← ex15] at bx15
  clear ex15
  refine zw_7 zr_166_79 rfl ?_
  refine zw_46i zr_166_80 km14_69_18 rfl rfl rfl ?_
  refine zw_16h zr_166_83 ?_
  intro x16 hx16a hx16b
  refine zw_49 (c := 76) (len := 10) zr_166_84 rfl rfl (by omega) (by omega) ?_
  intro m17 em17
  have hIm17 : zInv m17 := by rw [em17]; exact hIm14.any (by omega) rfl (by decide) (by decide)
  have hFm17 : zFr W_166 m0 m17 := by rw [em17]; exact hFm14.any rfl
  have km17_69_5 : m17 69 5 = a0 := by rw [em17, zUp_ne (by omega)]; exact km14_69_5
  have km17_69_17 : m17 69 17 = r6 := by rw [em17, zUp_ne (by omega)]; exact km14_69_17
  have km17_69_18 : m17 69 18 = r10 := by rw [em17, zUp_ne (by omega)]; exact km14_69_18
  clear em17
  refine zw_7 zr_166_85 rfl ?_
  refine zw_46r (s := 77) zr_166_86 rfl rfl rfl rfl ?_
  refine zw_3 zr_166_89 rfl ?_
  refine zw_45 zr_166_90 ⟨rfl, rfl⟩ ?_
  refine zw_48 (c := 77) (len := 10) zr_166_91 rfl rfl (by omega) (by omega) ?_
  intro x18 ex18
  have bx18 := hIm17.ra (c := 77) (len := 10) (k := (x2).toNat) rfl (by omega)
  rw [← ex18] at bx18
  clear ex18
  refine zw_push zr_166_92 ?_
  refine zw_16h zr_166_93 ?_
  intro x19 hx19a hx19b
  refine zw_49 (c := 77) (len := 10) zr_166_94 rfl rfl (by omega) (by omega) ?_
  intro m20 em20
  have hIm20 : zInv m20 := by rw [em20]; exact hIm17.any (by omega) rfl (by decide) (by decide)
  have hFm20 : zFr W_166 m0 m20 := by rw [em20]; exact hFm17.any rfl
  have km20_69_5 : m20 69 5 = a0 := by rw [em20, zUp_ne (by omega)]; exact km17_69_5
  have km20_69_17 : m20 69 17 = r6 := by rw [em20, zUp_ne (by omega)]; exact km17_69_17
  have km20_69_18 : m20 69 18 = r10 := by rw [em20, zUp_ne (by omega)]; exact km17_69_18
  clear em20
  refine zw_7 zr_166_95 rfl ?_
  refine zw_46r (s := 77) zr_166_96 rfl rfl rfl rfl ?_
  refine zw_4 zr_166_99 rfl ?_
  refine zw_45 zr_166_101 ⟨rfl, rfl⟩ ?_
  refine zw_48 (c := 77) (len := 10) zr_166_102 rfl rfl (by omega) (by omega) ?_
  intro x21 ex21
  have bx21 := hIm20.ra (c := 77) (len := 10) (k := (x3).toNat) rfl (by omega)
  rw [← ex21] at bx21
  clear ex21
  refine zw_push zr_166_103 ?_
  refine zw_16h zr_166_104 ?_
  intro x22 hx22a hx22b
  refine zw_49 (c := 77) (len := 10) zr_166_105 rfl rfl (by omega) (by omega) ?_
  intro m23 em23
  have hIm23 : zInv m23 := by rw [em23]; exact hIm20.any (by omega) rfl (by decide) (by decide)
  have hFm23 : zFr W_166 m0 m23 := by rw [em23]; exact hFm20.any rfl
  have km23_69_5 : m23 69 5 = a0 := by rw [em23, zUp_ne (by omega)]; exact km20_69_5
  have km23_69_17 : m23 69 17 = r6 := by rw [em23, zUp_ne (by omega)]; exact km20_69_17
  have km23_69_18 : m23 69 18 = r10 := by rw [em23, zUp_ne (by omega)]; exact km20_69_18
  clear em23
  refine zw_7 zr_166_106 rfl ?_
  refine zw_46r (s := 78) zr_166_107 rfl rfl rfl rfl ?_
  refine zw_3 zr_166_110 rfl ?_
  refine zw_7 zr_166_111 rfl ?_
  refine zw_3 zr_166_112 rfl ?_
  refine zw_push zr_166_113 ?_
  refine zw_C zr_166_114 (Or.inl rfl) zm_144 rfl rfl ⟨Nat.le_of_ble_eq_true rfl, Nat.le_of_ble_eq_true rfl, Nat.le_of_ble_eq_true rfl, rfl, by decide⟩ (by omega) (P := (fun v m' => zW E (d) 166 117 [(2, 69), (0, a0), (0, a1), (0, x2), (0, x3)] (if v.1 = 9 then [(0, x2), (2, 78)] else v :: [(0, x2), (2, 78)]) m' Q)) ?_ (fun _ _ h => h)
  generalize hQ1 : (fun v m' => zW E (d) 166 117 [(2, 69), (0, a0), (0, a1), (0, x2), (0, x3)] (if v.1 = 9 then [(0, x2), (2, 78)] else v :: [(0, x2), (2, 78)]) m' Q) = Q1
  show zW E (d - 1) 144 0 [(2, 69), (0, a1), (0, 0)] [] m23 Q1
  refine zw_7 zr_144_0 rfl ?_
  refine zw_46r (s := 70) zr_144_1 rfl rfl rfl rfl ?_
  refine zw_push zr_144_4 ?_
  refine zw_push zr_144_6 ?_
  refine zw_3 zr_144_8 rfl ?_
  refine zw_18 zr_144_9 (by omega) ?_
  refine zw_16 zr_144_10 (by omega) ?_
  refine zw_3 zr_144_11 rfl ?_
  refine zw_16 zr_144_12 (by omega) ?_
  refine zw_48 (c := 70) (len := 826) zr_144_13 rfl rfl (by omega) (by omega) ?_
  intro x24 ex24
  have bx24 := ib_70_m0 hIm23 (k := (((90 + (6 * a1)) + 0)).toNat) (by omega)
  rw [← ex24] at bx24
  clear ex24
  refine zw_R zr_144_14 (by decide) zm_144 (v := (0, x24)) rfl ?_
  rw [← hQ1]
  show zW E (d) 166 117 [(2, 69), (0, a0), (0, a1), (0, x2), (0, x3)] [(0, x24), (0, x2), (2, 78)] m23 Q
  refine zw_49 (c := 78) (len := 10) zr_166_117 rfl rfl (by omega) (by omega) ?_
  intro m25 em25
  have hIm25 : zInv m25 := by rw [em25]; exact hIm23.any (by omega) rfl (by decide) (by decide)
  have hFm25 : zFr W_166 m0 m25 := by rw [em25]; exact hFm23.any rfl
  have km25_69_5 : m25 69 5 = a0 := by rw [em25, zUp_ne (by omega)]; exact km23_69_5
  have km25_69_17 : m25 69 17 = r6 := by rw [em25, zUp_ne (by omega)]; exact km23_69_17
  have km25_69_18 : m25 69 18 = r10 := by rw [em25, zUp_ne (by omega)]; exact km23_69_18
  clear em25
  refine zw_7 zr_166_118 rfl ?_
  refine zw_46r (s := 78) zr_166_119 rfl rfl rfl rfl ?_
  refine zw_4 zr_166_122 rfl ?_
  refine zw_7 zr_166_124 rfl ?_
  refine zw_3 zr_166_125 rfl ?_
  refine zw_push zr_166_126 ?_
  refine zw_C zr_166_127 (Or.inl rfl) zm_144 rfl rfl ⟨Nat.le_of_ble_eq_true rfl, Nat.le_of_ble_eq_true rfl, Nat.le_of_ble_eq_true rfl, rfl, by decide⟩ (by omega) (P := (fun v m' => zW E (d) 166 130 [(2, 69), (0, a0), (0, a1), (0, x2), (0, x3)] (if v.1 = 9 then [(0, x3), (2, 78)] else v :: [(0, x3), (2, 78)]) m' Q)) ?_ (fun _ _ h => h)
  generalize hQ1 : (fun v m' => zW E (d) 166 130 [(2, 69), (0, a0), (0, a1), (0, x2), (0, x3)] (if v.1 = 9 then [(0, x3), (2, 78)] else v :: [(0, x3), (2, 78)]) m' Q) = Q1
  show zW E (d - 1) 144 0 [(2, 69), (0, a1), (0, 0)] [] m25 Q1
  refine zw_7 zr_144_0 rfl ?_
  refine zw_46r (s := 70) zr_144_1 rfl rfl rfl rfl ?_
  refine zw_push zr_144_4 ?_
  refine zw_push zr_144_6 ?_
  refine zw_3 zr_144_8 rfl ?_
  refine zw_18 zr_144_9 (by omega) ?_
  refine zw_16 zr_144_10 (by omega) ?_
  refine zw_3 zr_144_11 rfl ?_
  refine zw_16 zr_144_12 (by omega) ?_
  refine zw_48 (c := 70) (len := 826) zr_144_13 rfl rfl (by omega) (by omega) ?_
  intro x26 ex26
  have bx26 := ib_70_m0 hIm25 (k := (((90 + (6 * a1)) + 0)).toNat) (by omega)
  rw [← ex26] at bx26
  clear ex26
  refine zw_R zr_144_14 (by decide) zm_144 (v := (0, x26)) rfl ?_
  rw [← hQ1]
  show zW E (d) 166 130 [(2, 69), (0, a0), (0, a1), (0, x2), (0, x3)] [(0, x26), (0, x3), (2, 78)] m25 Q
  refine zw_49 (c := 78) (len := 10) zr_166_130 rfl rfl (by omega) (by omega) ?_
  intro m27 em27
  have hIm27 : zInv m27 := by rw [em27]; exact hIm25.any (by omega) rfl (by decide) (by decide)
  have hFm27 : zFr W_166 m0 m27 := by rw [em27]; exact hFm25.any rfl
  have km27_69_5 : m27 69 5 = a0 := by rw [em27, zUp_ne (by omega)]; exact km25_69_5
  have km27_69_17 : m27 69 17 = r6 := by rw [em27, zUp_ne (by omega)]; exact km25_69_17
  have km27_69_18 : m27 69 18 = r10 := by rw [em27, zUp_ne (by omega)]; exact km25_69_18
  clear em27
  refine zw_R zr_166_131 (by decide) zm_166 (v := (9, 0)) rfl ?_
  rw [← hQ]; exact ⟨rfl, hIm27, hFm27⟩

abbrev W_168 : List (Nat × Nat) := [(69, 5), (69, 6), (69, 7), (69, 9), (69, 11), (69, 13), (69, 17), (69, 18), (73, 1000), (74, 1000), (75, 1000), (76, 1000), (77, 1000), (78, 1000)]
set_option maxHeartbeats 8000000 in
theorem th_168 {E : zE} {d : Nat} {m0 : zM} {a0 : Int} {a1 : Int} {a2 : Int} (hd : 9 ≤ d) (hI0 : zInv m0) (ha0 : (-2147483648) ≤ a0 ∧ a0 ≤ 2147483647) (ha1 : (-2147483648) ≤ a1 ∧ a1 ≤ 2147483647) (ha2 : (-2147483648) ≤ a2 ∧ a2 ≤ 2147483647) : zC E d 168 [(2, 69), (0, a0), (0, a1), (0, a2)] m0 (fun v m' => ∃ r : Int, v = (0, r) ∧ (-2147483648) ≤ r ∧ r ≤ 2147483647 ∧ zInv m' ∧ zFr W_168 m0 m') := by
  have hF0 : zFr W_168 m0 m0 := zFr.rfl
  generalize hQ : (fun (v : zV) (m' : zM) => ∃ r : Int, v = (0, r) ∧ (-2147483648) ≤ r ∧ r ≤ 2147483647 ∧ zInv m' ∧ zFr W_168 m0 m') = Q
  show zW E d 168 0 [(2, 69), (0, a0), (0, a1), (0, a2), (9, 0)] [] m0 Q
  refine zw_3 zr_168_0 rfl ?_
  refine zw_C zr_168_1 (Or.inr rfl) zm_148 rfl rfl ⟨Nat.le_of_ble_eq_true rfl, Nat.le_of_ble_eq_true rfl, Nat.le_of_ble_eq_true rfl, rfl, by decide⟩ (by omega) (P := (fun v m' => zW E (d) 168 4 [(2, 69), (0, a0), (0, a1), (0, a2), (9, 0)] (if v.1 = 9 then [] else v :: []) m' Q)) ?_ (fun _ _ h => h)
  generalize hQ1 : (fun v m' => zW E (d) 168 4 [(2, 69), (0, a0), (0, a1), (0, a2), (9, 0)] (if v.1 = 9 then [] else v :: []) m' Q) = Q1
  show zW E (d - 1) 148 0 [(0, a0)] [] m0 Q1
  refine zw_3 zr_148_0 rfl ?_
  refine zw_36 zr_148_1 ?_
  refine zw_push zr_148_2 ?_
  refine zw_push zr_148_3 ?_
  refine zw_C zr_148_6 (Or.inr rfl) zm_140 rfl rfl ⟨Nat.le_of_ble_eq_true rfl, Nat.le_of_ble_eq_true rfl, Nat.le_of_ble_eq_true rfl, rfl, by decide⟩ (by omega) (P := (fun v m' => zW E (d - 1) 148 9 [(0, a0)] (if v.1 = 9 then [] else v :: []) m' Q1)) ?_ (fun _ _ h => h)
  generalize hQ2 : (fun v m' => zW E (d - 1) 148 9 [(0, a0)] (if v.1 = 9 then [] else v :: []) m' Q1) = Q2
  show zW E (d - 1 - 1) 140 0 [(1, a0), (9, 0), (1, 0), (9, 0), (1, 3), (9, 0)] [] m0 Q2
  refine zw_5 zr_140_0 rfl ?_
  refine zw_5 zr_140_1 rfl ?_
  refine zw_39_0 zr_140_2 zr_140_3 ?_ ?_
  · intro h1
    refine zw_push zr_140_17 ?_
    refine zw_R zr_140_18 (by decide) zm_140 (v := (0, 0)) (zRetB (by omega)) ?_
    rw [← hQ2]
    show zW E (d - 1) 148 9 [(0, a0)] [(0, 0)] m0 Q1
    refine zw_R zr_148_9 (by decide) zm_148 (v := (0, 0)) (zRetB (by omega)) ?_
    rw [← hQ1]
    show zW E (d) 168 4 [(2, 69), (0, a0), (0, a1), (0, a2), (9, 0)] [(0, 0)] m0 Q
    refine zw_40_1 zr_168_4 ?_ ?_
    · intro h2
      refine zw_push zr_168_29 ?_
      refine zw_R zr_168_31 (by decide) zm_168 (v := (0, (-100000))) rfl ?_
      rw [← hQ]; exact ⟨_, rfl, by omega, by omega, hI0, hF0⟩
    · intro h3; omega
  · intro h4
    refine zw_5 zr_140_6 rfl ?_
    refine zw_6 zr_140_7 rfl ?_
    refine zw_39_2 zr_140_9 zr_140_10 ?_ ?_
    · intro h5
      refine zw_push zr_140_17 ?_
      refine zw_R zr_140_18 (by decide) zm_140 (v := (0, 0)) (zRetB (by omega)) ?_
      rw [← hQ2]
      show zW E (d - 1) 148 9 [(0, a0)] [(0, 0)] m0 Q1
      refine zw_R zr_148_9 (by decide) zm_148 (v := (0, 0)) (zRetB (by omega)) ?_
      rw [← hQ1]
      show zW E (d) 168 4 [(2, 69), (0, a0), (0, a1), (0, a2), (9, 0)] [(0, 0)] m0 Q
      refine zw_40_1 zr_168_4 ?_ ?_
      · intro h6
        refine zw_push zr_168_29 ?_
        refine zw_R zr_168_31 (by decide) zm_168 (v := (0, (-100000))) rfl ?_
        rw [← hQ]; exact ⟨_, rfl, by omega, by omega, hI0, hF0⟩
      · intro h7; omega
    · intro h8
      refine zw_push zr_140_13 ?_
      refine zw_42 zr_140_14 ?_
      refine zw_R zr_140_18 (by decide) zm_140 (v := (0, 1)) (zRetB (by omega)) ?_
      rw [← hQ2]
      show zW E (d - 1) 148 9 [(0, a0)] [(0, 1)] m0 Q1
      refine zw_R zr_148_9 (by decide) zm_148 (v := (0, 1)) (zRetB (by omega)) ?_
      rw [← hQ1]
      show zW E (d) 168 4 [(2, 69), (0, a0), (0, a1), (0, a2), (9, 0)] [(0, 1)] m0 Q
      refine zw_40_1 zr_168_4 ?_ ?_
      · intro h9; omega
      · intro h10
        refine zw_7 zr_168_7 rfl ?_
        refine zw_3 zr_168_8 rfl ?_
        refine zw_C zr_168_9 (Or.inl rfl) zm_143 rfl rfl ⟨Nat.le_of_ble_eq_true rfl, Nat.le_of_ble_eq_true rfl, Nat.le_of_ble_eq_true rfl, rfl, by decide⟩ (by omega) (P := (fun v m' => zW E (d) 168 12 [(2, 69), (0, a0), (0, a1), (0, a2), (9, 0)] (if v.1 = 9 then [] else v :: []) m' Q)) ?_ (fun _ _ h => h)
        generalize hQ1 : (fun v m' => zW E (d) 168 12 [(2, 69), (0, a0), (0, a1), (0, a2), (9, 0)] (if v.1 = 9 then [] else v :: []) m' Q) = Q1
        show zW E (d - 1) 143 0 [(2, 69), (0, a1)] [] m0 Q1
        refine zw_3 zr_143_0 rfl ?_
        refine zw_36 zr_143_1 ?_
        refine zw_push zr_143_2 ?_
        refine zw_7 zr_143_3 rfl ?_
        refine zw_C zr_143_4 (Or.inl rfl) zm_141 rfl rfl ⟨Nat.le_of_ble_eq_true rfl, Nat.le_of_ble_eq_true rfl, Nat.le_of_ble_eq_true rfl, rfl, by decide⟩ (by omega) (P := (fun v m' => zW E (d - 1) 143 7 [(2, 69), (0, a1)] (if v.1 = 9 then [(1, 0), (1, a1)] else v :: [(1, 0), (1, a1)]) m' Q1)) ?_ (fun _ _ h => h)
        generalize hQ2 : (fun v m' => zW E (d - 1) 143 7 [(2, 69), (0, a1)] (if v.1 = 9 then [(1, 0), (1, a1)] else v :: [(1, 0), (1, a1)]) m' Q1) = Q2
        show zW E (d - 1 - 1) 141 0 [(2, 69)] [] m0 Q2
        refine zw_7 zr_141_0 rfl ?_
        refine zw_46r (s := 70) zr_141_1 rfl rfl rfl rfl ?_
        refine zw_push zr_141_4 ?_
        obtain ⟨f11, ef11⟩ : ∃ v, m0 70 822 = v := ⟨_, rfl⟩
        have bf11 : 0 ≤ m0 70 822 ∧ m0 70 822 ≤ 10 := ib_70_players hI0 (by omega)
        rw [ef11] at bf11
        refine zw_48k (c := 70) (len := 826) zr_141_7 rfl rfl (by omega) (by omega) (show (822 : Int).toNat = 822 by omega) ef11 ?_
        refine zw_R zr_141_8 (by decide) zm_141 (v := (0, f11)) rfl ?_
        rw [← hQ2]
        show zW E (d - 1) 143 7 [(2, 69), (0, a1)] [(0, f11), (1, 0), (1, a1)] m0 Q1
        refine zw_push zr_143_7 ?_
        refine zw_17 zr_143_8 (by omega) ?_
        refine zw_36 zr_143_9 ?_
        refine zw_C zr_143_10 (Or.inr rfl) zm_140 rfl rfl ⟨Nat.le_of_ble_eq_true rfl, Nat.le_of_ble_eq_true rfl, Nat.le_of_ble_eq_true rfl, rfl, by decide⟩ (by omega) (P := (fun v m' => zW E (d - 1) 143 13 [(2, 69), (0, a1)] (if v.1 = 9 then [] else v :: []) m' Q1)) ?_ (fun _ _ h => h)
        generalize hQ2 : (fun v m' => zW E (d - 1) 143 13 [(2, 69), (0, a1)] (if v.1 = 9 then [] else v :: []) m' Q1) = Q2
        show zW E (d - 1 - 1) 140 0 [(1, a1), (9, 0), (1, 0), (9, 0), (1, (f11 - 1)), (9, 0)] [] m0 Q2
        refine zw_5 zr_140_0 rfl ?_
        refine zw_5 zr_140_1 rfl ?_
        refine zw_39_0 zr_140_2 zr_140_3 ?_ ?_
        · intro h12
          refine zw_push zr_140_17 ?_
          refine zw_R zr_140_18 (by decide) zm_140 (v := (0, 0)) (zRetB (by omega)) ?_
          rw [← hQ2]
          show zW E (d - 1) 143 13 [(2, 69), (0, a1)] [(0, 0)] m0 Q1
          refine zw_R zr_143_13 (by decide) zm_143 (v := (0, 0)) (zRetB (by omega)) ?_
          rw [← hQ1]
          show zW E (d) 168 12 [(2, 69), (0, a0), (0, a1), (0, a2), (9, 0)] [(0, 0)] m0 Q
          refine zw_40_1 zr_168_12 ?_ ?_
          · intro h13
            refine zw_push zr_168_29 ?_
            refine zw_R zr_168_31 (by decide) zm_168 (v := (0, (-100000))) rfl ?_
            rw [← hQ]; exact ⟨_, rfl, by omega, by omega, hI0, hF0⟩
          · intro h14; omega
        · intro h15
          refine zw_5 zr_140_6 rfl ?_
          refine zw_6 zr_140_7 rfl ?_
          refine zw_39_2 zr_140_9 zr_140_10 ?_ ?_
          · intro h16
            refine zw_push zr_140_17 ?_
            refine zw_R zr_140_18 (by decide) zm_140 (v := (0, 0)) (zRetB (by omega)) ?_
            rw [← hQ2]
            show zW E (d - 1) 143 13 [(2, 69), (0, a1)] [(0, 0)] m0 Q1
            refine zw_R zr_143_13 (by decide) zm_143 (v := (0, 0)) (zRetB (by omega)) ?_
            rw [← hQ1]
            show zW E (d) 168 12 [(2, 69), (0, a0), (0, a1), (0, a2), (9, 0)] [(0, 0)] m0 Q
            refine zw_40_1 zr_168_12 ?_ ?_
            · intro h17
              refine zw_push zr_168_29 ?_
              refine zw_R zr_168_31 (by decide) zm_168 (v := (0, (-100000))) rfl ?_
              rw [← hQ]; exact ⟨_, rfl, by omega, by omega, hI0, hF0⟩
            · intro h18; omega
          · intro h19
            refine zw_push zr_140_13 ?_
            refine zw_42 zr_140_14 ?_
            refine zw_R zr_140_18 (by decide) zm_140 (v := (0, 1)) (zRetB (by omega)) ?_
            rw [← hQ2]
            show zW E (d - 1) 143 13 [(2, 69), (0, a1)] [(0, 1)] m0 Q1
            refine zw_R zr_143_13 (by decide) zm_143 (v := (0, 1)) (zRetB (by omega)) ?_
            rw [← hQ1]
            show zW E (d) 168 12 [(2, 69), (0, a0), (0, a1), (0, a2), (9, 0)] [(0, 1)] m0 Q
            refine zw_40_1 zr_168_12 ?_ ?_
            · intro h20; omega
            · intro h21
              refine zw_3 zr_168_15 rfl ?_
              refine zw_36 zr_168_16 ?_
              refine zw_push zr_168_17 ?_
              refine zw_7 zr_168_18 rfl ?_
              refine zw_C zr_168_19 (Or.inl rfl) zm_142 rfl rfl ⟨Nat.le_of_ble_eq_true rfl, Nat.le_of_ble_eq_true rfl, Nat.le_of_ble_eq_true rfl, rfl, by decide⟩ (by omega) (P := (fun v m' => zW E (d) 168 22 [(2, 69), (0, a0), (0, a1), (0, a2), (9, 0)] (if v.1 = 9 then [(1, 0), (1, a2)] else v :: [(1, 0), (1, a2)]) m' Q)) ?_ (fun _ _ h => h)
              generalize hQ1 : (fun v m' => zW E (d) 168 22 [(2, 69), (0, a0), (0, a1), (0, a2), (9, 0)] (if v.1 = 9 then [(1, 0), (1, a2)] else v :: [(1, 0), (1, a2)]) m' Q) = Q1
              show zW E (d - 1) 142 0 [(2, 69)] [] m0 Q1
              refine zw_7 zr_142_0 rfl ?_
              refine zw_46r (s := 70) zr_142_1 rfl rfl rfl rfl ?_
              refine zw_push zr_142_4 ?_
              obtain ⟨f22, ef22⟩ : ∃ v, m0 70 823 = v := ⟨_, rfl⟩
              have bf22 : 0 ≤ m0 70 823 ∧ m0 70 823 ≤ 60 := ib_70_meetings hI0 (by omega)
              rw [ef22] at bf22
              refine zw_48k (c := 70) (len := 826) zr_142_7 rfl rfl (by omega) (by omega) (show (823 : Int).toNat = 823 by omega) ef22 ?_
              refine zw_R zr_142_8 (by decide) zm_142 (v := (0, f22)) rfl ?_
              rw [← hQ1]
              show zW E (d) 168 22 [(2, 69), (0, a0), (0, a1), (0, a2), (9, 0)] [(0, f22), (1, 0), (1, a2)] m0 Q
              refine zw_36 zr_168_22 ?_
              refine zw_C zr_168_23 (Or.inr rfl) zm_140 rfl rfl ⟨Nat.le_of_ble_eq_true rfl, Nat.le_of_ble_eq_true rfl, Nat.le_of_ble_eq_true rfl, rfl, by decide⟩ (by omega) (P := (fun v m' => zW E (d) 168 26 [(2, 69), (0, a0), (0, a1), (0, a2), (9, 0)] (if v.1 = 9 then [] else v :: []) m' Q)) ?_ (fun _ _ h => h)
              generalize hQ1 : (fun v m' => zW E (d) 168 26 [(2, 69), (0, a0), (0, a1), (0, a2), (9, 0)] (if v.1 = 9 then [] else v :: []) m' Q) = Q1
              show zW E (d - 1) 140 0 [(1, a2), (9, 0), (1, 0), (9, 0), (1, f22), (9, 0)] [] m0 Q1
              refine zw_5 zr_140_0 rfl ?_
              refine zw_5 zr_140_1 rfl ?_
              refine zw_39_0 zr_140_2 zr_140_3 ?_ ?_
              · intro h23
                refine zw_push zr_140_17 ?_
                refine zw_R zr_140_18 (by decide) zm_140 (v := (0, 0)) (zRetB (by omega)) ?_
                rw [← hQ1]
                show zW E (d) 168 26 [(2, 69), (0, a0), (0, a1), (0, a2), (9, 0)] [(0, 0)] m0 Q
                refine zw_40_4 zr_168_26 ?_ ?_
                · intro h24; omega
                · intro h25
                  refine zw_push zr_168_29 ?_
                  refine zw_R zr_168_31 (by decide) zm_168 (v := (0, (-100000))) rfl ?_
                  rw [← hQ]; exact ⟨_, rfl, by omega, by omega, hI0, hF0⟩
              · intro h26
                refine zw_5 zr_140_6 rfl ?_
                refine zw_6 zr_140_7 rfl ?_
                refine zw_39_2 zr_140_9 zr_140_10 ?_ ?_
                · intro h27
                  refine zw_push zr_140_17 ?_
                  refine zw_R zr_140_18 (by decide) zm_140 (v := (0, 0)) (zRetB (by omega)) ?_
                  rw [← hQ1]
                  show zW E (d) 168 26 [(2, 69), (0, a0), (0, a1), (0, a2), (9, 0)] [(0, 0)] m0 Q
                  refine zw_40_4 zr_168_26 ?_ ?_
                  · intro h28; omega
                  · intro h29
                    refine zw_push zr_168_29 ?_
                    refine zw_R zr_168_31 (by decide) zm_168 (v := (0, (-100000))) rfl ?_
                    rw [← hQ]; exact ⟨_, rfl, by omega, by omega, hI0, hF0⟩
                · intro h30
                  refine zw_push zr_140_13 ?_
                  refine zw_42 zr_140_14 ?_
                  refine zw_R zr_140_18 (by decide) zm_140 (v := (0, 1)) (zRetB (by omega)) ?_
                  rw [← hQ1]
                  show zW E (d) 168 26 [(2, 69), (0, a0), (0, a1), (0, a2), (9, 0)] [(0, 1)] m0 Q
                  refine zw_40_4 zr_168_26 ?_ ?_
                  · intro h31
                    refine zw_7 zr_168_32 rfl ?_
                    refine zw_3 zr_168_33 rfl ?_
                    refine zw_C zr_168_34 (Or.inl rfl) zm_164 rfl rfl ⟨Nat.le_of_ble_eq_true rfl, Nat.le_of_ble_eq_true rfl, Nat.le_of_ble_eq_true rfl, rfl, by decide⟩ (by omega) (th_164 (d := d - 1) (by omega) hI0 (a0 := a0)   (by omega)) ?_
                    rintro _ m32 ⟨rfl, hIm32, gm32⟩
                    have hFm32 : zFr W_168 m0 m32 := hF0.trans gm32 rfl
                    have km32_70_822 : m32 70 822 = f11 := (gm32 70 822 rfl).trans ef11
                    have km32_70_823 : m32 70 823 = f22 := (gm32 70 823 rfl).trans ef22
                    show zW E (d) 168 37 [(2, 69), (0, a0), (0, a1), (0, a2), (9, 0)] [] m32 Q
                    refine zw_push zr_168_37 ?_
                    refine zw_10 (L' := [(2, 69), (0, a0), (0, a1), (0, a2), (0, 0)]) zr_168_38 (Nat.le_of_ble_eq_true rfl) rfl ?_
                    have lp40_35 : ∀ (nlp40_35 : Nat) (i33 : Int) (m34 : zM), zInv m34 → zFr W_168 m0 m34 → m34 70 822 = f11 → m34 70 823 = f22 → 0 ≤ i33 → i33 ≤ 60 → (60 - i33).toNat < nlp40_35 → zW E (d) 168 40 [(2, 69), (0, a0), (0, a1), (0, a2), (0, i33)] [] m34 Q := by
                      intro nlp40_35
                      induction nlp40_35 with
                      | zero =>
                        intros
                        exact absurd (by assumption : _ < 0) (Nat.not_lt_zero _)
                      | succ nlp40_35 ihlp40_35 =>
                        intro i33 m34 hIm34 hFm34 km34_70_822 km34_70_823 li33 ui33 hmlp40_35
                        refine zw_4 zr_168_40 rfl ?_
                        refine zw_3 zr_168_42 rfl ?_
                        refine zw_41_3 zr_168_43 ?_ ?_
                        · intro h37
                          refine zw_7 zr_168_59 rfl ?_
                          refine zw_46r (s := 76) zr_168_60 rfl rfl rfl rfl ?_
                          refine zw_3 zr_168_63 rfl ?_
                          refine zw_48 (c := 76) (len := 10) zr_168_64 rfl rfl (by omega) (by omega) ?_
                          intro x38 ex38
                          have bx38 := hIm34.ra (c := 76) (len := 10) (k := (a1).toNat) rfl (by omega)
                          rw [← ex38] at bx38
                          clear ex38
                          refine zw_R zr_168_65 (by decide) zm_168 (v := (0, x38)) rfl ?_
                          rw [← hQ]; exact ⟨_, rfl, by omega, by omega, hIm34, hFm34⟩
                        · intro h39
                          refine zw_7 zr_168_46 rfl ?_
                          refine zw_3 zr_168_47 rfl ?_
                          refine zw_4 zr_168_48 rfl ?_
                          refine zw_C zr_168_50 (Or.inl rfl) zm_166 rfl rfl ⟨Nat.le_of_ble_eq_true rfl, Nat.le_of_ble_eq_true rfl, Nat.le_of_ble_eq_true rfl, rfl, by decide⟩ (by omega) (th_166 (d := d - 1) (by omega) hIm34 (a0 := a0) (a1 := i33)   (by omega) (by omega)) ?_
                          rintro _ m40 ⟨rfl, hIm40, gm40⟩
                          have hFm40 : zFr W_168 m0 m40 := hFm34.trans gm40 rfl
                          have km40_70_822 : m40 70 822 = f11 := (gm40 70 822 rfl).trans km34_70_822
                          have km40_70_823 : m40 70 823 = f22 := (gm40 70 823 rfl).trans km34_70_823
                          show zW E (d) 168 53 [(2, 69), (0, a0), (0, a1), (0, a2), (0, i33)] [] m40 Q
                          refine zw_15 (c := 1) (L' := [(2, 69), (0, a0), (0, a1), (0, a2), (0, (i33 + 1))]) zr_168_53 rfl (by decide) (by omega) rfl ?_
                          refine zw_42 zr_168_56 ?_
                          exact zw_less (L := [(2, 69), (0, a0), (0, a1), (0, a2), (0, (i33 + 1))]) ⟨Or.inr rfl, Or.inr rfl, Or.inr rfl, Or.inr rfl, Or.inr rfl, trivial⟩ (ihlp40_35 ((i33 + 1)) m40 hIm40 hFm40  km40_70_822 km40_70_823 (by omega) (by omega) (by omega))
                    exact lp40_35 _ (0) m32 hIm32 hFm32  km32_70_822 km32_70_823 (by omega) (by omega) (Nat.lt_succ_self _)
                  · intro h41; omega

abbrev W_170 : List (Nat × Nat) := [(69, 5), (69, 6), (69, 7), (69, 9), (69, 11), (69, 13), (69, 17), (69, 18), (73, 1000), (74, 1000), (75, 1000), (76, 1000), (77, 1000), (78, 1000)]
set_option maxHeartbeats 8000000 in
theorem th_170 {E : zE} {d : Nat} {m0 : zM} {a0 : Int} {a1 : Int} (hd : 9 ≤ d) (hI0 : zInv m0) (ha0 : (-2147483648) ≤ a0 ∧ a0 ≤ 2147483647) (ha1 : (-2147483648) ≤ a1 ∧ a1 ≤ 2147483647) : zC E d 170 [(2, 69), (0, a0), (0, a1)] m0 (fun v m' => ∃ r : Int, v = (0, r) ∧ (-2147483648) ≤ r ∧ r ≤ 2147483647 ∧ zInv m' ∧ zFr W_170 m0 m') := by
  have hF0 : zFr W_170 m0 m0 := zFr.rfl
  generalize hQ : (fun (v : zV) (m' : zM) => ∃ r : Int, v = (0, r) ∧ (-2147483648) ≤ r ∧ r ≤ 2147483647 ∧ zInv m' ∧ zFr W_170 m0 m') = Q
  show zW E d 170 0 [(2, 69), (0, a0), (0, a1), (9, 0), (9, 0)] [] m0 Q
  refine zw_3 zr_170_0 rfl ?_
  refine zw_C zr_170_1 (Or.inr rfl) zm_148 rfl rfl ⟨Nat.le_of_ble_eq_true rfl, Nat.le_of_ble_eq_true rfl, Nat.le_of_ble_eq_true rfl, rfl, by decide⟩ (by omega) (P := (fun v m' => zW E (d) 170 4 [(2, 69), (0, a0), (0, a1), (9, 0), (9, 0)] (if v.1 = 9 then [] else v :: []) m' Q)) ?_ (fun _ _ h => h)
  generalize hQ1 : (fun v m' => zW E (d) 170 4 [(2, 69), (0, a0), (0, a1), (9, 0), (9, 0)] (if v.1 = 9 then [] else v :: []) m' Q) = Q1
  show zW E (d - 1) 148 0 [(0, a0)] [] m0 Q1
  refine zw_3 zr_148_0 rfl ?_
  refine zw_36 zr_148_1 ?_
  refine zw_push zr_148_2 ?_
  refine zw_push zr_148_3 ?_
  refine zw_C zr_148_6 (Or.inr rfl) zm_140 rfl rfl ⟨Nat.le_of_ble_eq_true rfl, Nat.le_of_ble_eq_true rfl, Nat.le_of_ble_eq_true rfl, rfl, by decide⟩ (by omega) (P := (fun v m' => zW E (d - 1) 148 9 [(0, a0)] (if v.1 = 9 then [] else v :: []) m' Q1)) ?_ (fun _ _ h => h)
  generalize hQ2 : (fun v m' => zW E (d - 1) 148 9 [(0, a0)] (if v.1 = 9 then [] else v :: []) m' Q1) = Q2
  show zW E (d - 1 - 1) 140 0 [(1, a0), (9, 0), (1, 0), (9, 0), (1, 3), (9, 0)] [] m0 Q2
  refine zw_5 zr_140_0 rfl ?_
  refine zw_5 zr_140_1 rfl ?_
  refine zw_39_0 zr_140_2 zr_140_3 ?_ ?_
  · intro h1
    refine zw_push zr_140_17 ?_
    refine zw_R zr_140_18 (by decide) zm_140 (v := (0, 0)) (zRetB (by omega)) ?_
    rw [← hQ2]
    show zW E (d - 1) 148 9 [(0, a0)] [(0, 0)] m0 Q1
    refine zw_R zr_148_9 (by decide) zm_148 (v := (0, 0)) (zRetB (by omega)) ?_
    rw [← hQ1]
    show zW E (d) 170 4 [(2, 69), (0, a0), (0, a1), (9, 0), (9, 0)] [(0, 0)] m0 Q
    refine zw_40_1 zr_170_4 ?_ ?_
    · intro h2
      refine zw_push zr_170_14 ?_
      refine zw_R zr_170_16 (by decide) zm_170 (v := (0, (-100000))) rfl ?_
      rw [← hQ]; exact ⟨_, rfl, by omega, by omega, hI0, hF0⟩
    · intro h3; omega
  · intro h4
    refine zw_5 zr_140_6 rfl ?_
    refine zw_6 zr_140_7 rfl ?_
    refine zw_39_2 zr_140_9 zr_140_10 ?_ ?_
    · intro h5
      refine zw_push zr_140_17 ?_
      refine zw_R zr_140_18 (by decide) zm_140 (v := (0, 0)) (zRetB (by omega)) ?_
      rw [← hQ2]
      show zW E (d - 1) 148 9 [(0, a0)] [(0, 0)] m0 Q1
      refine zw_R zr_148_9 (by decide) zm_148 (v := (0, 0)) (zRetB (by omega)) ?_
      rw [← hQ1]
      show zW E (d) 170 4 [(2, 69), (0, a0), (0, a1), (9, 0), (9, 0)] [(0, 0)] m0 Q
      refine zw_40_1 zr_170_4 ?_ ?_
      · intro h6
        refine zw_push zr_170_14 ?_
        refine zw_R zr_170_16 (by decide) zm_170 (v := (0, (-100000))) rfl ?_
        rw [← hQ]; exact ⟨_, rfl, by omega, by omega, hI0, hF0⟩
      · intro h7; omega
    · intro h8
      refine zw_push zr_140_13 ?_
      refine zw_42 zr_140_14 ?_
      refine zw_R zr_140_18 (by decide) zm_140 (v := (0, 1)) (zRetB (by omega)) ?_
      rw [← hQ2]
      show zW E (d - 1) 148 9 [(0, a0)] [(0, 1)] m0 Q1
      refine zw_R zr_148_9 (by decide) zm_148 (v := (0, 1)) (zRetB (by omega)) ?_
      rw [← hQ1]
      show zW E (d) 170 4 [(2, 69), (0, a0), (0, a1), (9, 0), (9, 0)] [(0, 1)] m0 Q
      refine zw_40_1 zr_170_4 ?_ ?_
      · intro h9; omega
      · intro h10
        refine zw_3 zr_170_7 rfl ?_
        refine zw_C zr_170_8 (Or.inr rfl) zm_169 rfl rfl ⟨Nat.le_of_ble_eq_true rfl, Nat.le_of_ble_eq_true rfl, Nat.le_of_ble_eq_true rfl, rfl, by decide⟩ (by omega) (P := (fun v m' => zW E (d) 170 11 [(2, 69), (0, a0), (0, a1), (9, 0), (9, 0)] (if v.1 = 9 then [] else v :: []) m' Q)) ?_ (fun _ _ h => h)
        generalize hQ1 : (fun v m' => zW E (d) 170 11 [(2, 69), (0, a0), (0, a1), (9, 0), (9, 0)] (if v.1 = 9 then [] else v :: []) m' Q) = Q1
        show zW E (d - 1) 169 0 [(0, a1)] [] m0 Q1
        refine zw_3 zr_169_0 rfl ?_
        refine zw_36 zr_169_1 ?_
        refine zw_push zr_169_2 ?_
        refine zw_push zr_169_3 ?_
        refine zw_C zr_169_6 (Or.inr rfl) zm_140 rfl rfl ⟨Nat.le_of_ble_eq_true rfl, Nat.le_of_ble_eq_true rfl, Nat.le_of_ble_eq_true rfl, rfl, by decide⟩ (by omega) (P := (fun v m' => zW E (d - 1) 169 9 [(0, a1)] (if v.1 = 9 then [] else v :: []) m' Q1)) ?_ (fun _ _ h => h)
        generalize hQ2 : (fun v m' => zW E (d - 1) 169 9 [(0, a1)] (if v.1 = 9 then [] else v :: []) m' Q1) = Q2
        show zW E (d - 1 - 1) 140 0 [(1, a1), (9, 0), (1, 0), (9, 0), (1, 99), (9, 0)] [] m0 Q2
        refine zw_5 zr_140_0 rfl ?_
        refine zw_5 zr_140_1 rfl ?_
        refine zw_39_0 zr_140_2 zr_140_3 ?_ ?_
        · intro h11
          refine zw_push zr_140_17 ?_
          refine zw_R zr_140_18 (by decide) zm_140 (v := (0, 0)) (zRetB (by omega)) ?_
          rw [← hQ2]
          show zW E (d - 1) 169 9 [(0, a1)] [(0, 0)] m0 Q1
          refine zw_R zr_169_9 (by decide) zm_169 (v := (0, 0)) (zRetB (by omega)) ?_
          rw [← hQ1]
          show zW E (d) 170 11 [(2, 69), (0, a0), (0, a1), (9, 0), (9, 0)] [(0, 0)] m0 Q
          refine zw_40_4 zr_170_11 ?_ ?_
          · intro h12; omega
          · intro h13
            refine zw_push zr_170_14 ?_
            refine zw_R zr_170_16 (by decide) zm_170 (v := (0, (-100000))) rfl ?_
            rw [← hQ]; exact ⟨_, rfl, by omega, by omega, hI0, hF0⟩
        · intro h14
          refine zw_5 zr_140_6 rfl ?_
          refine zw_6 zr_140_7 rfl ?_
          refine zw_39_2 zr_140_9 zr_140_10 ?_ ?_
          · intro h15
            refine zw_push zr_140_17 ?_
            refine zw_R zr_140_18 (by decide) zm_140 (v := (0, 0)) (zRetB (by omega)) ?_
            rw [← hQ2]
            show zW E (d - 1) 169 9 [(0, a1)] [(0, 0)] m0 Q1
            refine zw_R zr_169_9 (by decide) zm_169 (v := (0, 0)) (zRetB (by omega)) ?_
            rw [← hQ1]
            show zW E (d) 170 11 [(2, 69), (0, a0), (0, a1), (9, 0), (9, 0)] [(0, 0)] m0 Q
            refine zw_40_4 zr_170_11 ?_ ?_
            · intro h16; omega
            · intro h17
              refine zw_push zr_170_14 ?_
              refine zw_R zr_170_16 (by decide) zm_170 (v := (0, (-100000))) rfl ?_
              rw [← hQ]; exact ⟨_, rfl, by omega, by omega, hI0, hF0⟩
          · intro h18
            refine zw_push zr_140_13 ?_
            refine zw_42 zr_140_14 ?_
            refine zw_R zr_140_18 (by decide) zm_140 (v := (0, 1)) (zRetB (by omega)) ?_
            rw [← hQ2]
            show zW E (d - 1) 169 9 [(0, a1)] [(0, 1)] m0 Q1
            refine zw_R zr_169_9 (by decide) zm_169 (v := (0, 1)) (zRetB (by omega)) ?_
            rw [← hQ1]
            show zW E (d) 170 11 [(2, 69), (0, a0), (0, a1), (9, 0), (9, 0)] [(0, 1)] m0 Q
            refine zw_40_4 zr_170_11 ?_ ?_
            · intro h19
              refine zw_7 zr_170_17 rfl ?_
              refine zw_3 zr_170_18 rfl ?_
              refine zw_C zr_170_19 (Or.inl rfl) zm_164 rfl rfl ⟨Nat.le_of_ble_eq_true rfl, Nat.le_of_ble_eq_true rfl, Nat.le_of_ble_eq_true rfl, rfl, by decide⟩ (by omega) (th_164 (d := d - 1) (by omega) hI0 (a0 := a0)   (by omega)) ?_
              rintro _ m20 ⟨rfl, hIm20, gm20⟩
              have hFm20 : zFr W_170 m0 m20 := hF0.trans gm20 rfl
              show zW E (d) 170 22 [(2, 69), (0, a0), (0, a1), (9, 0), (9, 0)] [] m20 Q
              refine zw_push zr_170_22 ?_
              refine zw_9 (L' := [(2, 69), (0, a0), (0, a1), (0, 0), (9, 0)]) zr_170_23 (Nat.le_of_ble_eq_true rfl) rfl ?_
              refine zw_push zr_170_24 ?_
              refine zw_10 (L' := [(2, 69), (0, a0), (0, a1), (0, 0), (0, 0)]) zr_170_25 (Nat.le_of_ble_eq_true rfl) rfl ?_
              have lp27_24 : ∀ (nlp27_24 : Nat) (i21 i22 : Int) (m23 : zM), zInv m23 → zFr W_170 m0 m23 → (-2147483648) ≤ i21 → i21 ≤ 2147483647 → 0 ≤ i22 → i22 ≤ 60 → (60 - i22).toNat < nlp27_24 → zW E (d) 170 27 [(2, 69), (0, a0), (0, a1), (0, i21), (0, i22)] [] m23 Q := by
                intro nlp27_24
                induction nlp27_24 with
                | zero =>
                  intros
                  exact absurd (by assumption : _ < 0) (Nat.not_lt_zero _)
                | succ nlp27_24 ihlp27_24 =>
                  intro i21 i22 m23 hIm23 hFm23 li21 ui21 li22 ui22 hmlp27_24
                  refine zw_4 zr_170_27 rfl ?_
                  refine zw_7 zr_170_29 rfl ?_
                  refine zw_C zr_170_30 (Or.inl rfl) zm_142 rfl rfl ⟨Nat.le_of_ble_eq_true rfl, Nat.le_of_ble_eq_true rfl, Nat.le_of_ble_eq_true rfl, rfl, by decide⟩ (by omega) (P := (fun v m' => zW E (d) 170 33 [(2, 69), (0, a0), (0, a1), (0, i21), (0, i22)] (if v.1 = 9 then [(0, i22)] else v :: [(0, i22)]) m' Q)) ?_ (fun _ _ h => h)
                  generalize hQ1 : (fun v m' => zW E (d) 170 33 [(2, 69), (0, a0), (0, a1), (0, i21), (0, i22)] (if v.1 = 9 then [(0, i22)] else v :: [(0, i22)]) m' Q) = Q1
                  show zW E (d - 1) 142 0 [(2, 69)] [] m23 Q1
                  refine zw_7 zr_142_0 rfl ?_
                  refine zw_46r (s := 70) zr_142_1 rfl rfl rfl rfl ?_
                  refine zw_push zr_142_4 ?_
                  obtain ⟨f26, ef26⟩ : ∃ v, m23 70 823 = v := ⟨_, rfl⟩
                  have bf26 : 0 ≤ m23 70 823 ∧ m23 70 823 ≤ 60 := ib_70_meetings hIm23 (by omega)
                  rw [ef26] at bf26
                  refine zw_48k (c := 70) (len := 826) zr_142_7 rfl rfl (by omega) (by omega) (show (823 : Int).toNat = 823 by omega) ef26 ?_
                  refine zw_R zr_142_8 (by decide) zm_142 (v := (0, f26)) rfl ?_
                  rw [← hQ1]
                  show zW E (d) 170 33 [(2, 69), (0, a0), (0, a1), (0, i21), (0, i22)] [(0, f26), (0, i22)] m23 Q
                  refine zw_41_3 zr_170_33 ?_ ?_
                  · intro h27
                    refine zw_3 zr_170_76 rfl ?_
                    refine zw_R zr_170_77 (by decide) zm_170 (v := (0, i21)) rfl ?_
                    rw [← hQ]; exact ⟨_, rfl, by omega, by omega, hIm23, hFm23⟩
                  · intro h28
                    refine zw_7 zr_170_36 rfl ?_
                    refine zw_3 zr_170_37 rfl ?_
                    refine zw_4 zr_170_38 rfl ?_
                    refine zw_C zr_170_40 (Or.inl rfl) zm_166 rfl rfl ⟨Nat.le_of_ble_eq_true rfl, Nat.le_of_ble_eq_true rfl, Nat.le_of_ble_eq_true rfl, rfl, by decide⟩ (by omega) (th_166 (d := d - 1) (by omega) hIm23 (a0 := a0) (a1 := i22)   (by omega) (by omega)) ?_
                    rintro _ m29 ⟨rfl, hIm29, gm29⟩
                    have hFm29 : zFr W_170 m0 m29 := hFm23.trans gm29 rfl
                    have km29_70_823 : m29 70 823 = f26 := (gm29 70 823 rfl).trans ef26
                    show zW E (d) 170 43 [(2, 69), (0, a0), (0, a1), (0, i21), (0, i22)] [] m29 Q
                    refine zw_3 zr_170_43 rfl ?_
                    refine zw_7 zr_170_44 rfl ?_
                    refine zw_4 zr_170_45 rfl ?_
                    refine zw_push zr_170_47 ?_
                    refine zw_C zr_170_48 (Or.inl rfl) zm_144 rfl rfl ⟨Nat.le_of_ble_eq_true rfl, Nat.le_of_ble_eq_true rfl, Nat.le_of_ble_eq_true rfl, rfl, by decide⟩ (by omega) (P := (fun v m' => zW E (d) 170 51 [(2, 69), (0, a0), (0, a1), (0, i21), (0, i22)] (if v.1 = 9 then [(0, i21)] else v :: [(0, i21)]) m' Q)) ?_ (fun _ _ h => h)
                    generalize hQ1 : (fun v m' => zW E (d) 170 51 [(2, 69), (0, a0), (0, a1), (0, i21), (0, i22)] (if v.1 = 9 then [(0, i21)] else v :: [(0, i21)]) m' Q) = Q1
                    show zW E (d - 1) 144 0 [(2, 69), (0, i22), (0, 0)] [] m29 Q1
                    refine zw_7 zr_144_0 rfl ?_
                    refine zw_46r (s := 70) zr_144_1 rfl rfl rfl rfl ?_
                    refine zw_push zr_144_4 ?_
                    refine zw_push zr_144_6 ?_
                    refine zw_3 zr_144_8 rfl ?_
                    refine zw_18 zr_144_9 (by omega) ?_
                    refine zw_16 zr_144_10 (by omega) ?_
                    refine zw_3 zr_144_11 rfl ?_
                    refine zw_16 zr_144_12 (by omega) ?_
                    refine zw_48 (c := 70) (len := 826) zr_144_13 rfl rfl (by omega) (by omega) ?_
                    intro x30 ex30
                    have bx30 := ib_70_m0 hIm29 (k := (((90 + (6 * i22)) + 0)).toNat) (by omega)
                    rw [← ex30] at bx30
                    clear ex30
                    refine zw_R zr_144_14 (by decide) zm_144 (v := (0, x30)) rfl ?_
                    rw [← hQ1]
                    show zW E (d) 170 51 [(2, 69), (0, a0), (0, a1), (0, i21), (0, i22)] [(0, x30), (0, i21)] m29 Q
                    refine zw_3 zr_170_51 rfl ?_
                    refine zw_41_4 zr_170_52 ?_ ?_
                    · intro h31
                      refine zw_push zr_170_67 ?_
                      refine zw_16 zr_170_68 (by omega) ?_
                      refine zw_9 (L' := [(2, 69), (0, a0), (0, a1), (0, (i21 + 0)), (0, i22)]) zr_170_69 (Nat.le_of_ble_eq_true rfl) rfl ?_
                      refine zw_15 (c := 1) (L' := [(2, 69), (0, a0), (0, a1), (0, (i21 + 0)), (0, (i22 + 1))]) zr_170_70 rfl (by decide) (by omega) rfl ?_
                      refine zw_42 zr_170_73 ?_
                      exact zw_less (L := [(2, 69), (0, a0), (0, a1), (0, (i21 + 0)), (0, (i22 + 1))]) ⟨Or.inr rfl, Or.inr rfl, Or.inr rfl, Or.inr rfl, Or.inr rfl, trivial⟩ (ihlp27_24 ((i21 + 0)) ((i22 + 1)) m29 hIm29 hFm29   (by omega) (by omega) (by omega) (by omega) (by omega))
                    · intro h32
                      refine zw_7 zr_170_55 rfl ?_
                      obtain ⟨f33, ef33⟩ : ∃ v, m29 69 17 = v := ⟨_, rfl⟩
                      have bf33 := hIm29.fi (c := 69) (k := 17) rfl
                      rw [ef33] at bf33
                      refine zw_46i zr_170_56 ef33 rfl rfl rfl ?_
                      refine zw_7 zr_170_59 rfl ?_
                      obtain ⟨f34, ef34⟩ : ∃ v, m29 69 18 = v := ⟨_, rfl⟩
                      have bf34 := hIm29.fi (c := 69) (k := 18) rfl
                      rw [ef34] at bf34
                      refine zw_46i zr_170_60 ef34 rfl rfl rfl ?_
                      refine zw_16h zr_170_63 ?_
                      intro x35 hx35a hx35b
                      refine zw_42 zr_170_64 ?_
                      refine zw_16h zr_170_68 ?_
                      intro x36 hx36a hx36b
                      refine zw_9 (L' := [(2, 69), (0, a0), (0, a1), (0, x36), (0, i22)]) zr_170_69 (Nat.le_of_ble_eq_true rfl) rfl ?_
                      refine zw_15 (c := 1) (L' := [(2, 69), (0, a0), (0, a1), (0, x36), (0, (i22 + 1))]) zr_170_70 rfl (by decide) (by omega) rfl ?_
                      refine zw_42 zr_170_73 ?_
                      exact zw_less (L := [(2, 69), (0, a0), (0, a1), (0, x36), (0, (i22 + 1))]) ⟨Or.inr rfl, Or.inr rfl, Or.inr rfl, Or.inr rfl, Or.inr rfl, trivial⟩ (ihlp27_24 (x36) ((i22 + 1)) m29 hIm29 hFm29   (by omega) (by omega) (by omega) (by omega) (by omega))
              exact lp27_24 _ (0) (0) m20 hIm20 hFm20   (by omega) (by omega) (by omega) (by omega) (Nat.lt_succ_self _)
            · intro h37; omega

set_option maxHeartbeats 8000000 in
theorem th_55 {E : zE} {d : Nat} {m0 : zM} {a0 : Int} (hd : 2 ≤ d) (hI0 : zInv m0) (ha0 : 0 ≤ a0 ∧ a0 ≤ 99) : zC E d 55 [(2, 1), (0, a0)] m0 (fun v m' => ∃ r : Int, v = (0, r) ∧ (-2147483648) ≤ r ∧ r ≤ 2147483647 ∧ m' = m0) := by
  generalize hQ : (fun (v : zV) (m' : zM) => ∃ r : Int, v = (0, r) ∧ (-2147483648) ≤ r ∧ r ≤ 2147483647 ∧ m' = m0) = Q
  show zW E d 55 0 [(2, 1), (0, a0), (9, 0), (9, 0)] [] m0 Q
  refine zw_push zr_55_0 ?_
  refine zw_9 (L' := [(2, 1), (0, a0), (0, 0), (9, 0)]) zr_55_1 (Nat.le_of_ble_eq_true rfl) rfl ?_
  refine zw_push zr_55_2 ?_
  refine zw_9 (L' := [(2, 1), (0, a0), (0, 0), (0, 0)]) zr_55_3 (Nat.le_of_ble_eq_true rfl) rfl ?_
  have lp4_3 : ∀ (nlp4_3 : Nat) (i1 i2 : Int), (-2147483648) ≤ i1 → i1 ≤ 2147483647 → 0 ≤ i2 → i2 ≤ 60 → (60 - i2).toNat < nlp4_3 → zW E (d) 55 4 [(2, 1), (0, a0), (0, i1), (0, i2)] [] m0 Q := by
    intro nlp4_3
    induction nlp4_3 with
    | zero =>
      intros
      exact absurd (by assumption : _ < 0) (Nat.not_lt_zero _)
    | succ nlp4_3 ihlp4_3 =>
      intro i1 i2 li1 ui1 li2 ui2 hmlp4_3
      refine zw_3 zr_55_4 rfl ?_
      refine zw_7 zr_55_5 rfl ?_
      obtain ⟨f5, ef5⟩ : ∃ v, m0 1 1 = v := ⟨_, rfl⟩
      have bf5 := ib_1_1 hI0
      rw [ef5] at bf5
      refine zw_46i zr_55_6 ef5 rfl rfl rfl ?_
      refine zw_41_3 zr_55_9 ?_ ?_
      · intro h6
        refine zw_3 zr_55_36 rfl ?_
        refine zw_R zr_55_37 (by decide) zm_55 (v := (0, i1)) rfl ?_
        rw [← hQ]; exact ⟨_, rfl, by omega, by omega, rfl⟩
      · intro h7
        refine zw_7 zr_55_12 rfl ?_
        refine zw_46r (s := 5) zr_55_13 rfl rfl rfl rfl ?_
        refine zw_3 zr_55_16 rfl ?_
        refine zw_48 (c := 5) (len := 60) zr_55_17 rfl rfl (by omega) (by omega) ?_
        intro x8 ex8
        have bx8 := ib_5 hI0 (k := (i2).toNat) (by omega)
        rw [← ex8] at bx8
        clear ex8
        refine zw_3 zr_55_18 rfl ?_
        refine zw_41_4 zr_55_19 ?_ ?_
        · intro h9
          refine zw_15 (c := 1) (L' := [(2, 1), (0, a0), (0, i1), (0, (i2 + 1))]) zr_55_30 rfl (by decide) (by omega) rfl ?_
          refine zw_42 zr_55_33 ?_
          exact zw_less (L := [(2, 1), (0, a0), (0, i1), (0, (i2 + 1))]) ⟨Or.inr rfl, Or.inr rfl, Or.inr rfl, Or.inr rfl, trivial⟩ (ihlp4_3 (i1) ((i2 + 1))  (by omega) (by omega) (by omega) (by omega) (by omega))
        · intro h10
          refine zw_3 zr_55_22 rfl ?_
          refine zw_7 zr_55_23 rfl ?_
          refine zw_3 zr_55_24 rfl ?_
          refine zw_C zr_55_25 (Or.inl rfl) zm_27 rfl rfl ⟨Nat.le_of_ble_eq_true rfl, Nat.le_of_ble_eq_true rfl, Nat.le_of_ble_eq_true rfl, rfl, by decide⟩ (by omega) (P := (fun v m' => zW E (d) 55 28 [(2, 1), (0, a0), (0, i1), (0, i2)] (if v.1 = 9 then [(0, i1)] else v :: [(0, i1)]) m' Q)) ?_ (fun _ _ h => h)
          generalize hQ1 : (fun v m' => zW E (d) 55 28 [(2, 1), (0, a0), (0, i1), (0, i2)] (if v.1 = 9 then [(0, i1)] else v :: [(0, i1)]) m' Q) = Q1
          show zW E (d - 1) 27 0 [(2, 1), (0, i2)] [] m0 Q1
          refine zw_push zr_27_0 ?_
          refine zw_7 zr_27_1 rfl ?_
          refine zw_46r (s := 6) zr_27_2 rfl rfl rfl rfl ?_
          refine zw_3 zr_27_5 rfl ?_
          refine zw_48 (c := 6) (len := 60) zr_27_6 rfl rfl (by omega) (by omega) ?_
          intro x11 ex11
          have bx11 := ib_6 hI0 (k := (i2).toNat) (by omega)
          rw [← ex11] at bx11
          clear ex11
          refine zw_24h zr_27_7 ?_
          intro x12 hx12a hx12b
          refine zw_push zr_27_8 ?_
          refine zw_7 zr_27_9 rfl ?_
          refine zw_46r (s := 7) zr_27_10 rfl rfl rfl rfl ?_
          refine zw_3 zr_27_13 rfl ?_
          refine zw_48 (c := 7) (len := 60) zr_27_14 rfl rfl (by omega) (by omega) ?_
          intro x13 ex13
          have bx13 := ib_7 hI0 (k := (i2).toNat) (by omega)
          rw [← ex13] at bx13
          clear ex13
          refine zw_24h zr_27_15 ?_
          intro x14 hx14a hx14b
          refine zw_22h zr_27_16 ?_
          intro x15 hx15a hx15b
          refine zw_R zr_27_17 (by decide) zm_27 (v := (0, x15)) rfl ?_
          rw [← hQ1]
          show zW E (d) 55 28 [(2, 1), (0, a0), (0, i1), (0, i2)] [(0, x15), (0, i1)] m0 Q
          refine zw_22h zr_55_28 ?_
          intro x16 hx16a hx16b
          refine zw_9 (L' := [(2, 1), (0, a0), (0, x16), (0, i2)]) zr_55_29 (Nat.le_of_ble_eq_true rfl) rfl ?_
          refine zw_15 (c := 1) (L' := [(2, 1), (0, a0), (0, x16), (0, (i2 + 1))]) zr_55_30 rfl (by decide) (by omega) rfl ?_
          refine zw_42 zr_55_33 ?_
          exact zw_less (L := [(2, 1), (0, a0), (0, x16), (0, (i2 + 1))]) ⟨Or.inr rfl, Or.inr rfl, Or.inr rfl, Or.inr rfl, trivial⟩ (ihlp4_3 (x16) ((i2 + 1))  (by omega) (by omega) (by omega) (by omega) (by omega))
  exact lp4_3 _ (0) (0)  (by omega) (by omega) (by omega) (by omega) (Nat.lt_succ_self _)

set_option maxHeartbeats 8000000 in
theorem th_30 {E : zE} {d : Nat} {m0 : zM} {a0 : Int} (hd : 1 ≤ d) (hI0 : zInv m0) (ha0 : (-2147483648) ≤ a0 ∧ a0 ≤ 2147483647) : zC E d 30 [(2, 43), (0, a0)] m0 (fun v m' => ∃ r : Int, v = (0, r) ∧ (-2147483648) ≤ r ∧ r ≤ 2147483647 ∧ m' = m0) := by
  generalize hQ : (fun (v : zV) (m' : zM) => ∃ r : Int, v = (0, r) ∧ (-2147483648) ≤ r ∧ r ≤ 2147483647 ∧ m' = m0) = Q
  show zW E d 30 0 [(2, 43), (0, a0), (9, 0), (9, 0)] [] m0 Q
  refine zw_push zr_30_0 ?_
  refine zw_9 (L' := [(2, 43), (0, a0), (0, 0), (9, 0)]) zr_30_1 (Nat.le_of_ble_eq_true rfl) rfl ?_
  refine zw_push zr_30_2 ?_
  refine zw_9 (L' := [(2, 43), (0, a0), (0, 0), (0, 0)]) zr_30_3 (Nat.le_of_ble_eq_true rfl) rfl ?_
  have lp4_3 : ∀ (nlp4_3 : Nat) (i1 i2 : Int), (-2147483648) ≤ i1 → i1 ≤ 2147483647 → 0 ≤ i2 → i2 ≤ 10 → (10 - i2).toNat < nlp4_3 → zW E (d) 30 4 [(2, 43), (0, a0), (0, i1), (0, i2)] [] m0 Q := by
    intro nlp4_3
    induction nlp4_3 with
    | zero =>
      intros
      exact absurd (by assumption : _ < 0) (Nat.not_lt_zero _)
    | succ nlp4_3 ihlp4_3 =>
      intro i1 i2 li1 ui1 li2 ui2 hmlp4_3
      refine zw_3 zr_30_4 rfl ?_
      refine zw_7 zr_30_5 rfl ?_
      refine zw_46r (s := 1) zr_30_6 rfl rfl rfl rfl ?_
      obtain ⟨f5, ef5⟩ : ∃ v, m0 1 0 = v := ⟨_, rfl⟩
      have bf5 := ib_1_0 hI0
      rw [ef5] at bf5
      refine zw_46i zr_30_9 ef5 rfl rfl rfl ?_
      refine zw_41_3 zr_30_12 ?_ ?_
      · intro h6
        refine zw_3 zr_30_38 rfl ?_
        refine zw_R zr_30_39 (by decide) zm_30 (v := (0, i1)) rfl ?_
        rw [← hQ]; exact ⟨_, rfl, by omega, by omega, rfl⟩
      · intro h7
        refine zw_3 zr_30_15 rfl ?_
        refine zw_3 zr_30_16 rfl ?_
        refine zw_25h zr_30_17 ?_
        intro x8 hx8a hx8b
        refine zw_push zr_30_18 ?_
        refine zw_21m zr_30_19 (by omega) (by omega) ?_
        intro x9 hx9a hx9b
        refine zw_40_1 zr_30_20 ?_ ?_
        · intro h10
          refine zw_15 (c := 1) (L' := [(2, 43), (0, a0), (0, i1), (0, (i2 + 1))]) zr_30_32 rfl (by decide) (by omega) rfl ?_
          refine zw_42 zr_30_35 ?_
          exact zw_less (L := [(2, 43), (0, a0), (0, i1), (0, (i2 + 1))]) ⟨Or.inr rfl, Or.inr rfl, Or.inr rfl, Or.inr rfl, trivial⟩ (ihlp4_3 (i1) ((i2 + 1))  (by omega) (by omega) (by omega) (by omega) (by omega))
        · intro h11
          refine zw_3 zr_30_23 rfl ?_
          refine zw_7 zr_30_24 rfl ?_
          refine zw_46r (s := 44) zr_30_25 rfl rfl rfl rfl ?_
          refine zw_3 zr_30_28 rfl ?_
          refine zw_48 (c := 44) (len := 10) zr_30_29 rfl rfl (by omega) (by omega) ?_
          intro x12 ex12
          have bx12 := hI0.ra (c := 44) (len := 10) (k := (i2).toNat) rfl (by omega)
          rw [← ex12] at bx12
          clear ex12
          refine zw_16h zr_30_30 ?_
          intro x13 hx13a hx13b
          refine zw_9 (L' := [(2, 43), (0, a0), (0, x13), (0, i2)]) zr_30_31 (Nat.le_of_ble_eq_true rfl) rfl ?_
          refine zw_15 (c := 1) (L' := [(2, 43), (0, a0), (0, x13), (0, (i2 + 1))]) zr_30_32 rfl (by decide) (by omega) rfl ?_
          refine zw_42 zr_30_35 ?_
          exact zw_less (L := [(2, 43), (0, a0), (0, x13), (0, (i2 + 1))]) ⟨Or.inr rfl, Or.inr rfl, Or.inr rfl, Or.inr rfl, trivial⟩ (ihlp4_3 (x13) ((i2 + 1))  (by omega) (by omega) (by omega) (by omega) (by omega))
  exact lp4_3 _ (0) (0)  (by omega) (by omega) (by omega) (by omega) (Nat.lt_succ_self _)

set_option maxHeartbeats 8000000 in
theorem th_29 {E : zE} {d : Nat} {m0 : zM} {a0 : Int} (hd : 1 ≤ d) (hI0 : zInv m0) (ha0 : (-2147483648) ≤ a0 ∧ a0 ≤ 2147483647) : zC E d 29 [(0, a0)] m0 (fun v m' => ∃ r : Int, v = (0, r) ∧ 0 ≤ r ∧ r ≤ 63 ∧ m' = m0) := by
  generalize hQ : (fun (v : zV) (m' : zM) => ∃ r : Int, v = (0, r) ∧ 0 ≤ r ∧ r ≤ 63 ∧ m' = m0) = Q
  show zW E d 29 0 [(0, a0)] [] m0 Q
  refine zw_3 zr_29_0 rfl ?_
  refine zw_3 zr_29_1 rfl ?_
  refine zw_push zr_29_2 ?_
  refine zw_26h zr_29_3 ?_
  intro x1 hx1a hx1b
  refine zw_push zr_29_4 ?_
  refine zw_21m zr_29_7 (by omega) (by omega) ?_
  intro x2 hx2a hx2b
  refine zw_17h zr_29_8 ?_
  intro x3 hx3a hx3b
  refine zw_9 (L' := [(0, x3)]) zr_29_9 (Nat.le_of_ble_eq_true rfl) rfl ?_
  refine zw_3 zr_29_10 rfl ?_
  refine zw_push zr_29_11 ?_
  refine zw_21m zr_29_14 (by omega) (by omega) ?_
  intro x4 hx4a hx4b
  refine zw_3 zr_29_15 rfl ?_
  refine zw_push zr_29_16 ?_
  refine zw_26h zr_29_17 ?_
  intro x5 hx5a hx5b
  refine zw_push zr_29_18 ?_
  refine zw_21m zr_29_21 (by omega) (by omega) ?_
  intro x6 hx6a hx6b
  refine zw_16 zr_29_22 (by omega) ?_
  refine zw_9 (L' := [(0, (x4 + x6))]) zr_29_23 (Nat.le_of_ble_eq_true rfl) rfl ?_
  refine zw_3 zr_29_24 rfl ?_
  refine zw_3 zr_29_25 rfl ?_
  refine zw_push zr_29_26 ?_
  refine zw_26h zr_29_27 ?_
  intro x7 hx7a hx7b
  refine zw_16h zr_29_28 ?_
  intro x8 hx8a hx8b
  refine zw_push zr_29_29 ?_
  refine zw_21m zr_29_32 (by omega) (by omega) ?_
  intro x9 hx9a hx9b
  refine zw_9 (L' := [(0, x9)]) zr_29_33 (Nat.le_of_ble_eq_true rfl) rfl ?_
  refine zw_3 zr_29_34 rfl ?_
  refine zw_3 zr_29_35 rfl ?_
  refine zw_push zr_29_36 ?_
  refine zw_26h zr_29_38 ?_
  intro x10 hx10a hx10b
  refine zw_16h zr_29_39 ?_
  intro x11 hx11a hx11b
  refine zw_9 (L' := [(0, x11)]) zr_29_40 (Nat.le_of_ble_eq_true rfl) rfl ?_
  refine zw_3 zr_29_41 rfl ?_
  refine zw_3 zr_29_42 rfl ?_
  refine zw_push zr_29_43 ?_
  refine zw_26h zr_29_45 ?_
  intro x12 hx12a hx12b
  refine zw_16h zr_29_46 ?_
  intro x13 hx13a hx13b
  refine zw_9 (L' := [(0, x13)]) zr_29_47 (Nat.le_of_ble_eq_true rfl) rfl ?_
  refine zw_3 zr_29_48 rfl ?_
  refine zw_push zr_29_49 ?_
  refine zw_21m zr_29_51 (by omega) (by omega) ?_
  intro x14 hx14a hx14b
  refine zw_R zr_29_52 (by decide) zm_29 (v := (0, x14)) rfl ?_
  rw [← hQ]; exact ⟨_, rfl, by omega, by omega, rfl⟩

set_option maxHeartbeats 8000000 in
theorem th_37 {E : zE} {d : Nat} {m0 : zM} {a0 : Int} {a1 : Int} (hd : 1 ≤ d) (hI0 : zInv m0) (ha0 : (-9223372036854775808) ≤ a0 ∧ a0 ≤ 9223372036854775807) (ha1 : (-9223372036854775808) ≤ a1 ∧ a1 ≤ 9223372036854775807) : zC E d 37 [(1, a0), (1, a1)] m0 (fun v m' => ∃ r : Int, v = (1, r) ∧ (-9223372036854775808) ≤ r ∧ r ≤ 9223372036854775807 ∧ m' = m0) := by
  generalize hQ : (fun (v : zV) (m' : zM) => ∃ r : Int, v = (1, r) ∧ (-9223372036854775808) ≤ r ∧ r ≤ 9223372036854775807 ∧ m' = m0) = Q
  show zW E d 37 0 [(1, a0), (9, 0), (1, a1), (9, 0), (9, 0), (9, 0), (9, 0), (9, 0), (9, 0), (9, 0), (9, 0)] [] m0 Q
  refine zw_5 zr_37_0 rfl ?_
  refine zw_14 (L' := [(1, a0), (9, 0), (1, a1), (9, 0), (1, a0), (9, 0), (9, 0), (9, 0), (9, 0), (9, 0), (9, 0)]) zr_37_1 (Nat.le_of_ble_eq_true rfl) rfl ?_
  refine zw_5 zr_37_3 rfl ?_
  refine zw_14 (L' := [(1, a0), (9, 0), (1, a1), (9, 0), (1, a0), (9, 0), (1, a1), (9, 0), (9, 0), (9, 0), (9, 0)]) zr_37_4 (Nat.le_of_ble_eq_true rfl) rfl ?_
  refine zw_push zr_37_6 ?_
  refine zw_10 (L' := [(1, a0), (9, 0), (1, a1), (9, 0), (1, a0), (9, 0), (1, a1), (9, 0), (0, 0), (9, 0), (9, 0)]) zr_37_7 (Nat.le_of_ble_eq_true rfl) rfl ?_
  have lp9_4 : ∀ (nlp9_4 : Nat) (i1 i2 i3 : Int), (-9223372036854775808) ≤ i1 → i1 ≤ 9223372036854775807 → (-9223372036854775808) ≤ i2 → i2 ≤ 9223372036854775807 → 0 ≤ i3 → i3 ≤ 100 → (100 - i3).toNat < nlp9_4 → zW E (d) 37 9 [(1, a0), (9, 0), (1, a1), (9, 0), (1, i1), (9, 0), (1, i2), (9, 0), (0, i3), (9, 0), (9, 0)] [] m0 Q := by
    intro nlp9_4
    induction nlp9_4 with
    | zero =>
      intros
      exact absurd (by assumption : _ < 0) (Nat.not_lt_zero _)
    | succ nlp9_4 ihlp9_4 =>
      intro i1 i2 i3 li1 ui1 li2 ui2 li3 ui3 hmlp9_4
      refine zw_4 zr_37_9 rfl ?_
      refine zw_push zr_37_11 ?_
      refine zw_41_3 zr_37_13 ?_ ?_
      · intro h6
        refine zw_6 zr_37_44 rfl ?_
        refine zw_R zr_37_46 (by decide) zm_37 (v := (1, i1)) rfl ?_
        rw [← hQ]; exact ⟨_, rfl, by omega, by omega, rfl⟩
      · intro h7
        refine zw_6 zr_37_16 rfl ?_
        refine zw_push zr_37_18 ?_
        refine zw_39_1 zr_37_19 zr_37_20 ?_ ?_
        · intro h8
          refine zw_6 zr_37_44 rfl ?_
          refine zw_R zr_37_46 (by decide) zm_37 (v := (1, i1)) rfl ?_
          rw [← hQ]; exact ⟨_, rfl, by omega, by omega, rfl⟩
        · intro h9
          refine zw_6 zr_37_23 rfl ?_
          refine zw_6 zr_37_25 rfl ?_
          refine zw_119h zr_37_27 (by omega) ?_
          intro x10 hx10a hx10b
          refine zw_14 (L' := [(1, a0), (9, 0), (1, a1), (9, 0), (1, i1), (9, 0), (1, i2), (9, 0), (0, i3), (1, x10), (9, 0)]) zr_37_28 (Nat.le_of_ble_eq_true rfl) rfl ?_
          refine zw_6 zr_37_30 rfl ?_
          refine zw_14 (L' := [(1, a0), (9, 0), (1, a1), (9, 0), (1, i2), (9, 0), (1, i2), (9, 0), (0, i3), (1, x10), (9, 0)]) zr_37_32 (Nat.le_of_ble_eq_true rfl) rfl ?_
          refine zw_6 zr_37_34 rfl ?_
          refine zw_14 (L' := [(1, a0), (9, 0), (1, a1), (9, 0), (1, i2), (9, 0), (1, x10), (9, 0), (0, i3), (1, x10), (9, 0)]) zr_37_36 (Nat.le_of_ble_eq_true rfl) rfl ?_
          refine zw_15 (c := 1) (L' := [(1, a0), (9, 0), (1, a1), (9, 0), (1, i2), (9, 0), (1, x10), (9, 0), (0, (i3 + 1)), (1, x10), (9, 0)]) zr_37_38 rfl (by decide) (by omega) rfl ?_
          refine zw_42 zr_37_41 ?_
          exact zw_less (L := [(1, a0), (9, 0), (1, a1), (9, 0), (1, i2), (9, 0), (1, x10), (9, 0), (0, (i3 + 1)), (9, 0), (9, 0)]) ⟨Or.inr rfl, Or.inl rfl, Or.inr rfl, Or.inl rfl, Or.inr rfl, Or.inl rfl, Or.inr rfl, Or.inl rfl, Or.inr rfl, Or.inl rfl, Or.inl rfl, trivial⟩ (ihlp9_4 (i2) (x10) ((i3 + 1))  (by omega) (by omega) (by omega) (by omega) (by omega) (by omega) (by omega))
  exact lp9_4 _ (a0) (a1) (0)  (by omega) (by omega) (by omega) (by omega) (by omega) (by omega) (Nat.lt_succ_self _)
