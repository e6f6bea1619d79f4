abbrev W_99 : List (Nat × Nat) := [(1, 0), (2, 1000)]
set_option maxHeartbeats 8000000 in
theorem th_99 {E : zE} {d : Nat} {m0 : zM} {a0 : Int} (hd : 1 ≤ d) (hI0 : zInv m0) (ha0 : (-2147483648) ≤ a0 ∧ a0 ≤ 2147483647) : zC E d 99 [(2, 0), (0, a0)] m0 (fun v m' => ∃ r : Int, v = (0, r) ∧ (-4) ≤ r ∧ r ≤ 9 ∧ zInv m' ∧ zFr W_99 m0 m') := by
  have hF0 : zFr W_99 m0 m0 := zFr.rfl
  generalize hQ : (fun (v : zV) (m' : zM) => ∃ r : Int, v = (0, r) ∧ (-4) ≤ r ∧ r ≤ 9 ∧ zInv m' ∧ zFr W_99 m0 m') = Q
  show zW E d 99 0 [(2, 0), (0, a0)] [] m0 Q
  refine zw_3 zr_99_0 rfl ?_
  refine zw_push zr_99_1 ?_
  refine zw_41_0 zr_99_3 ?_ ?_
  · intro h1
    refine zw_push zr_99_12 ?_
    refine zw_R zr_99_14 (by decide) zm_99 (v := (0, (-2))) rfl ?_
    rw [← hQ]; exact ⟨_, rfl, by omega, by omega, hI0, hF0⟩
  · intro h2
    refine zw_3 zr_99_6 rfl ?_
    refine zw_push zr_99_7 ?_
    refine zw_41_0 zr_99_9 ?_ ?_
    · intro h3
      refine zw_7 zr_99_15 rfl ?_
      refine zw_46r (s := 1) zr_99_16 rfl rfl rfl rfl ?_
      obtain ⟨f4, ef4⟩ : ∃ v, m0 1 0 = v := ⟨_, rfl⟩
      have bf4 := ib_1_0 hI0
      rw [ef4] at bf4
      refine zw_46i zr_99_19 ef4 rfl rfl rfl ?_
      refine zw_push zr_99_22 ?_
      refine zw_41_0 zr_99_24 ?_ ?_
      · intro h5
        refine zw_7 zr_99_30 rfl ?_
        refine zw_46r (s := 1) zr_99_31 rfl rfl rfl rfl ?_
        refine zw_46r (s := 2) zr_99_34 rfl rfl rfl rfl ?_
        refine zw_7 zr_99_37 rfl ?_
        refine zw_46r (s := 1) zr_99_38 rfl rfl rfl rfl ?_
        refine zw_46i zr_99_41 ef4 rfl rfl rfl ?_
        refine zw_3 zr_99_44 rfl ?_
        refine zw_49 (c := 2) (len := 10) zr_99_45 rfl rfl (by omega) (by omega) ?_
        intro m6 em6
        have hIm6 : zInv m6 := by rw [em6]; exact iu_2 hI0 (by omega)
        have hFm6 : zFr W_99 m0 m6 := by rw [em6]; exact hF0.any rfl
        have km6_1_0 : m6 1 0 = f4 := by rw [em6, zUp_ne (by omega)]; exact ef4
        clear em6
        refine zw_7 zr_99_46 rfl ?_
        refine zw_46r (s := 1) zr_99_47 rfl rfl rfl rfl ?_
        refine zw_43 zr_99_50 rfl ?_
        refine zw_46i zr_99_51 km6_1_0 rfl rfl rfl ?_
        refine zw_44 zr_99_54 ⟨rfl, rfl⟩ ?_
        refine zw_push zr_99_55 ?_
        refine zw_16 zr_99_56 (by omega) ?_
        refine zw_47 (c := 1) zr_99_57 rfl ⟨rfl, by decide, rfl⟩ ?_
        intro m7 em7
        have hIm7 : zInv m7 := by rw [em7]; exact hIm6.bd (r := 1) (k := 0) (lo := 0) (hi := 10) rfl (by omega) (by decide) (by decide) (by decide)
        have hFm7 : zFr W_99 m0 m7 := by rw [em7]; exact hFm6.up rfl
        have km7_1_0 : m7 1 0 = (f4 + 1) := by rw [em7]; exact zUp_eq _ _ _ _
        clear em7
        refine zw_R zr_99_60 (by decide) zm_99 (v := (0, f4)) rfl ?_
        rw [← hQ]; exact ⟨_, rfl, by omega, by omega, hIm7, hFm7⟩
      · intro h8
        refine zw_push zr_99_27 ?_
        refine zw_R zr_99_29 (by decide) zm_99 (v := (0, (-4))) rfl ?_
        rw [← hQ]; exact ⟨_, rfl, by omega, by omega, hI0, hF0⟩
    · intro h9
      refine zw_push zr_99_12 ?_
      refine zw_R zr_99_14 (by decide) zm_99 (v := (0, (-2))) rfl ?_
      rw [← hQ]; exact ⟨_, rfl, by omega, by omega, hI0, hF0⟩

abbrev W_145 : List (Nat × Nat) := [(70, 1000)]
set_option maxHeartbeats 8000000 in
theorem th_145 {E : zE} {d : Nat} {m0 : zM} {a0 : Int} (hd : 2 ≤ d) (hI0 : zInv m0) (ha0 : (-2147483648) ≤ a0 ∧ a0 ≤ 2147483647) : zC E d 145 [(2, 69), (0, a0)] m0 (fun v m' => ∃ r : Int, v = (0, r) ∧ (-4) ≤ r ∧ r ≤ 9 ∧ zInv m' ∧ zFr W_145 m0 m') := by
  have hF0 : zFr W_145 m0 m0 := zFr.rfl
  generalize hQ : (fun (v : zV) (m' : zM) => ∃ r : Int, v = (0, r) ∧ (-4) ≤ r ∧ r ≤ 9 ∧ zInv m' ∧ zFr W_145 m0 m') = Q
  show zW E d 145 0 [(2, 69), (0, a0)] [] m0 Q
  refine zw_3 zr_145_0 rfl ?_
  refine zw_36 zr_145_1 ?_
  refine zw_push zr_145_2 ?_
  refine zw_push zr_145_5 ?_
  refine zw_C zr_145_8 (Or.inr rfl) zm_140 rfl rfl ⟨Nat.le_of_ble_eq_true rfl, Nat.le_of_ble_eq_true rfl, Nat.le_of_ble_eq_true rfl, rfl, by decide⟩ (by omega) (P := (fun v m' => zW E (d) 145 11 [(2, 69), (0, a0)] (if v.1 = 9 then [] else v :: []) m' Q)) ?_ (fun _ _ h => h)
  generalize hQ1 : (fun v m' => zW E (d) 145 11 [(2, 69), (0, a0)] (if v.1 = 9 then [] else v :: []) m' Q) = Q1
  show zW E (d - 1) 140 0 [(1, a0), (9, 0), (1, (-60)), (9, 0), (1, 99), (9, 0)] [] m0 Q1
  refine zw_5 zr_140_0 rfl ?_
  refine zw_5 zr_140_1 rfl ?_
  refine zw_39_0 zr_140_2 zr_140_3 ?_ ?_
  · intro h1
    refine zw_push zr_140_17 ?_
    refine zw_R zr_140_18 (by decide) zm_140 (v := (0, 0)) (zRetB (by omega)) ?_
    rw [← hQ1]
    show zW E (d) 145 11 [(2, 69), (0, a0)] [(0, 0)] m0 Q
    refine zw_40_4 zr_145_11 ?_ ?_
    · intro h2; omega
    · intro h3
      refine zw_push zr_145_14 ?_
      refine zw_R zr_145_16 (by decide) zm_145 (v := (0, (-2))) rfl ?_
      rw [← hQ]; exact ⟨_, rfl, by omega, by omega, hI0, hF0⟩
  · intro h4
    refine zw_5 zr_140_6 rfl ?_
    refine zw_6 zr_140_7 rfl ?_
    refine zw_39_2 zr_140_9 zr_140_10 ?_ ?_
    · intro h5
      refine zw_push zr_140_17 ?_
      refine zw_R zr_140_18 (by decide) zm_140 (v := (0, 0)) (zRetB (by omega)) ?_
      rw [← hQ1]
      show zW E (d) 145 11 [(2, 69), (0, a0)] [(0, 0)] m0 Q
      refine zw_40_4 zr_145_11 ?_ ?_
      · intro h6; omega
      · intro h7
        refine zw_push zr_145_14 ?_
        refine zw_R zr_145_16 (by decide) zm_145 (v := (0, (-2))) rfl ?_
        rw [← hQ]; exact ⟨_, rfl, by omega, by omega, hI0, hF0⟩
    · intro h8
      refine zw_push zr_140_13 ?_
      refine zw_42 zr_140_14 ?_
      refine zw_R zr_140_18 (by decide) zm_140 (v := (0, 1)) (zRetB (by omega)) ?_
      rw [← hQ1]
      show zW E (d) 145 11 [(2, 69), (0, a0)] [(0, 1)] m0 Q
      refine zw_40_4 zr_145_11 ?_ ?_
      · intro h9
        refine zw_7 zr_145_17 rfl ?_
        refine zw_C zr_145_18 (Or.inl rfl) zm_141 rfl rfl ⟨Nat.le_of_ble_eq_true rfl, Nat.le_of_ble_eq_true rfl, Nat.le_of_ble_eq_true rfl, rfl, by decide⟩ (by omega) (P := (fun v m' => zW E (d) 145 21 [(2, 69), (0, a0)] (if v.1 = 9 then [] else v :: []) m' Q)) ?_ (fun _ _ h => h)
        generalize hQ1 : (fun v m' => zW E (d) 145 21 [(2, 69), (0, a0)] (if v.1 = 9 then [] else v :: []) m' Q) = Q1
        show zW E (d - 1) 141 0 [(2, 69)] [] m0 Q1
        refine zw_7 zr_141_0 rfl ?_
        refine zw_46r (s := 70) zr_141_1 rfl rfl rfl rfl ?_
        refine zw_push zr_141_4 ?_
        obtain ⟨f10, ef10⟩ : ∃ v, m0 70 822 = v := ⟨_, rfl⟩
        have bf10 : 0 ≤ m0 70 822 ∧ m0 70 822 ≤ 10 := ib_70_players hI0 (by omega)
        rw [ef10] at bf10
        refine zw_48k (c := 70) (len := 826) zr_141_7 rfl rfl (by omega) (by omega) (show (822 : Int).toNat = 822 by omega) ef10 ?_
        refine zw_R zr_141_8 (by decide) zm_141 (v := (0, f10)) rfl ?_
        rw [← hQ1]
        show zW E (d) 145 21 [(2, 69), (0, a0)] [(0, f10)] m0 Q
        refine zw_push zr_145_21 ?_
        refine zw_41_4 zr_145_23 ?_ ?_
        · intro h11
          refine zw_7 zr_145_29 rfl ?_
          refine zw_46r (s := 70) zr_145_30 rfl rfl rfl rfl ?_
          refine zw_push zr_145_33 ?_
          refine zw_7 zr_145_34 rfl ?_
          refine zw_C zr_145_35 (Or.inl rfl) zm_141 rfl rfl ⟨Nat.le_of_ble_eq_true rfl, Nat.le_of_ble_eq_true rfl, Nat.le_of_ble_eq_true rfl, rfl, by decide⟩ (by omega) (P := (fun v m' => zW E (d) 145 38 [(2, 69), (0, a0)] (if v.1 = 9 then [(0, 0), (2, 70)] else v :: [(0, 0), (2, 70)]) m' Q)) ?_ (fun _ _ h => h)
          generalize hQ1 : (fun v m' => zW E (d) 145 38 [(2, 69), (0, a0)] (if v.1 = 9 then [(0, 0), (2, 70)] else v :: [(0, 0), (2, 70)]) m' Q) = Q1
          show zW E (d - 1) 141 0 [(2, 69)] [] m0 Q1
          refine zw_7 zr_141_0 rfl ?_
          refine zw_46r (s := 70) zr_141_1 rfl rfl rfl rfl ?_
          refine zw_push zr_141_4 ?_
          refine zw_48k (c := 70) (len := 826) zr_141_7 rfl rfl (by omega) (by omega) (show (822 : Int).toNat = 822 by omega) ef10 ?_
          refine zw_R zr_141_8 (by decide) zm_141 (v := (0, f10)) rfl ?_
          rw [← hQ1]
          show zW E (d) 145 38 [(2, 69), (0, a0)] [(0, f10), (0, 0), (2, 70)] m0 Q
          refine zw_16 zr_145_38 (by omega) ?_
          refine zw_3 zr_145_39 rfl ?_
          refine zw_49 (c := 70) (len := 826) zr_145_40 rfl rfl (by omega) (by omega) ?_
          intro m12 em12
          have hIm12 : zInv m12 := by rw [em12]; exact iu_70_born hI0 (by omega) (by omega)
          have hFm12 : zFr W_145 m0 m12 := by rw [em12]; exact hF0.any rfl
          have km12_70_822 : m12 70 822 = f10 := by rw [em12, zUp_ne (by omega)]; exact ef10
          clear em12
          refine zw_7 zr_145_41 rfl ?_
          refine zw_46r (s := 70) zr_145_42 rfl rfl rfl rfl ?_
          refine zw_push zr_145_45 ?_
          refine zw_45 zr_145_48 ⟨rfl, rfl⟩ ?_
          refine zw_48k (c := 70) (len := 826) zr_145_49 rfl rfl (by omega) (by omega) (show (822 : Int).toNat = 822 by omega) km12_70_822 ?_
          refine zw_push zr_145_50 ?_
          refine zw_16 zr_145_51 (by omega) ?_
          refine zw_49 (c := 70) (len := 826) zr_145_52 rfl rfl (by omega) (by omega) ?_
          intro m13 em13
          have hIm13 : zInv m13 := by rw [em13]; exact iu_70_players hIm12 (by omega) (by omega)
          have hFm13 : zFr W_145 m0 m13 := by rw [em13]; exact hFm12.any rfl
          have km13_70_822 : m13 70 822 = (f10 + 1) := by rw [em13, show (822 : Int).toNat = 822 by omega]; exact zUp_eq _ _ _ _
          clear em13
          refine zw_7 zr_145_53 rfl ?_
          refine zw_C zr_145_54 (Or.inl rfl) zm_141 rfl rfl ⟨Nat.le_of_ble_eq_true rfl, Nat.le_of_ble_eq_true rfl, Nat.le_of_ble_eq_true rfl, rfl, by decide⟩ (by omega) (P := (fun v m' => zW E (d) 145 57 [(2, 69), (0, a0)] (if v.1 = 9 then [] else v :: []) m' Q)) ?_ (fun _ _ h => h)
          generalize hQ1 : (fun v m' => zW E (d) 145 57 [(2, 69), (0, a0)] (if v.1 = 9 then [] else v :: []) m' Q) = Q1
          show zW E (d - 1) 141 0 [(2, 69)] [] m13 Q1
          refine zw_7 zr_141_0 rfl ?_
          refine zw_46r (s := 70) zr_141_1 rfl rfl rfl rfl ?_
          refine zw_push zr_141_4 ?_
          refine zw_48k (c := 70) (len := 826) zr_141_7 rfl rfl (by omega) (by omega) (show (822 : Int).toNat = 822 by omega) km13_70_822 ?_
          refine zw_R zr_141_8 (by decide) zm_141 (v := (0, (f10 + 1))) rfl ?_
          rw [← hQ1]
          show zW E (d) 145 57 [(2, 69), (0, a0)] [(0, (f10 + 1))] m13 Q
          refine zw_push zr_145_57 ?_
          refine zw_17 zr_145_58 (by omega) ?_
          refine zw_R zr_145_59 (by decide) zm_145 (v := (0, ((f10 + 1) - 1))) rfl ?_
          rw [← hQ]; exact ⟨_, rfl, by omega, by omega, hIm13, hFm13⟩
        · intro h14
          refine zw_push zr_145_26 ?_
          refine zw_R zr_145_28 (by decide) zm_145 (v := (0, (-4))) rfl ?_
          rw [← hQ]; exact ⟨_, rfl, by omega, by omega, hI0, hF0⟩
      · intro h15; omega

abbrev W_102 : List (Nat × Nat) := [(1, 1), (1, 2), (5, 1000), (6, 1000), (7, 1000), (8, 1000)]
set_option maxHeartbeats 8000000 in
theorem th_102 {E : zE} {d : Nat} {m0 : zM} {a0 : Int} {a1 : Int} {a2 : Int} {a3 : Int} {a4 : Int} (hd : 3 ≤ d) (hI0 : zInv m0) (ha0 : (-2147483648) ≤ a0 ∧ a0 ≤ 2147483647) (ha1 : (-2147483648) ≤ a1 ∧ a1 ≤ 2147483647) (ha2 : (-2147483648) ≤ a2 ∧ a2 ≤ 2147483647) (ha3 : (-2147483648) ≤ a3 ∧ a3 ≤ 2147483647) (ha4 : 0 ≤ a4 ∧ a4 ≤ 1) : zC E d 102 [(2, 0), (0, a0), (0, a1), (0, a2), (0, a3), (0, a4)] m0 (fun v m' => ∃ r : Int, v = (0, r) ∧ (-4) ≤ r ∧ r ≤ 59 ∧ zInv m' ∧ zFr W_102 m0 m') := by
  have hF0 : zFr W_102 m0 m0 := zFr.rfl
  generalize hQ : (fun (v : zV) (m' : zM) => ∃ r : Int, v = (0, r) ∧ (-4) ≤ r ∧ r ≤ 59 ∧ zInv m' ∧ zFr W_102 m0 m') = Q
  show zW E d 102 0 [(2, 0), (0, a0), (0, a1), (0, a2), (0, a3), (0, a4)] [] m0 Q
  refine zw_3 zr_102_0 rfl ?_
  refine zw_C zr_102_1 (Or.inr rfl) zm_101 rfl rfl ⟨Nat.le_of_ble_eq_true rfl, Nat.le_of_ble_eq_true rfl, Nat.le_of_ble_eq_true rfl, rfl, by decide⟩ (by omega) (P := (fun v m' => zW E (d) 102 4 [(2, 0), (0, a0), (0, a1), (0, a2), (0, a3), (0, a4)] (if v.1 = 9 then [] else v :: []) m' Q)) ?_ (fun _ _ h => h)
  generalize hQ1 : (fun v m' => zW E (d) 102 4 [(2, 0), (0, a0), (0, a1), (0, a2), (0, a3), (0, a4)] (if v.1 = 9 then [] else v :: []) m' Q) = Q1
  show zW E (d - 1) 101 0 [(0, a0)] [] m0 Q1
  refine zw_3 zr_101_0 rfl ?_
  refine zw_push zr_101_1 ?_
  refine zw_push zr_101_2 ?_
  refine zw_C zr_101_4 (Or.inr rfl) zm_100 rfl rfl ⟨Nat.le_of_ble_eq_true rfl, Nat.le_of_ble_eq_true rfl, Nat.le_of_ble_eq_true rfl, rfl, by decide⟩ (by omega) (P := (fun v m' => zW E (d - 1) 101 7 [(0, a0)] (if v.1 = 9 then [] else v :: []) m' Q1)) ?_ (fun _ _ h => h)
  generalize hQ2 : (fun v m' => zW E (d - 1) 101 7 [(0, a0)] (if v.1 = 9 then [] else v :: []) m' Q1) = Q2
  show zW E (d - 1 - 1) 100 0 [(0, a0), (0, 0), (0, 99)] [] m0 Q2
  refine zw_3 zr_100_0 rfl ?_
  refine zw_3 zr_100_1 rfl ?_
  refine zw_41_0 zr_100_2 ?_ ?_
  · intro h1
    refine zw_push zr_100_14 ?_
    refine zw_R zr_100_15 (by decide) zm_100 (v := (0, 0)) (zRetB (by omega)) ?_
    rw [← hQ2]
    show zW E (d - 1) 101 7 [(0, a0)] [(0, 0)] m0 Q1
    refine zw_R zr_101_7 (by decide) zm_101 (v := (0, 0)) (zRetB (by omega)) ?_
    rw [← hQ1]
    show zW E (d) 102 4 [(2, 0), (0, a0), (0, a1), (0, a2), (0, a3), (0, a4)] [(0, 0)] m0 Q
    refine zw_40_1 zr_102_4 ?_ ?_
    · intro h2
      refine zw_push zr_102_40 ?_
      refine zw_R zr_102_42 (by decide) zm_102 (v := (0, (-2))) rfl ?_
      rw [← hQ]; exact ⟨_, rfl, by omega, by omega, hI0, hF0⟩
    · intro h3; omega
  · intro h4
    refine zw_3 zr_100_5 rfl ?_
    refine zw_3 zr_100_6 rfl ?_
    refine zw_41_2 zr_100_7 ?_ ?_
    · intro h5
      refine zw_push zr_100_14 ?_
      refine zw_R zr_100_15 (by decide) zm_100 (v := (0, 0)) (zRetB (by omega)) ?_
      rw [← hQ2]
      show zW E (d - 1) 101 7 [(0, a0)] [(0, 0)] m0 Q1
      refine zw_R zr_101_7 (by decide) zm_101 (v := (0, 0)) (zRetB (by omega)) ?_
      rw [← hQ1]
      show zW E (d) 102 4 [(2, 0), (0, a0), (0, a1), (0, a2), (0, a3), (0, a4)] [(0, 0)] m0 Q
      refine zw_40_1 zr_102_4 ?_ ?_
      · intro h6
        refine zw_push zr_102_40 ?_
        refine zw_R zr_102_42 (by decide) zm_102 (v := (0, (-2))) rfl ?_
        rw [← hQ]; exact ⟨_, rfl, by omega, by omega, hI0, hF0⟩
      · intro h7; omega
    · intro h8
      refine zw_push zr_100_10 ?_
      refine zw_42 zr_100_11 ?_
      refine zw_R zr_100_15 (by decide) zm_100 (v := (0, 1)) (zRetB (by omega)) ?_
      rw [← hQ2]
      show zW E (d - 1) 101 7 [(0, a0)] [(0, 1)] m0 Q1
      refine zw_R zr_101_7 (by decide) zm_101 (v := (0, 1)) (zRetB (by omega)) ?_
      rw [← hQ1]
      show zW E (d) 102 4 [(2, 0), (0, a0), (0, a1), (0, a2), (0, a3), (0, a4)] [(0, 1)] m0 Q
      refine zw_40_1 zr_102_4 ?_ ?_
      · intro h9; omega
      · intro h10
        refine zw_7 zr_102_7 rfl ?_
        refine zw_46r (s := 1) zr_102_8 rfl rfl rfl rfl ?_
        refine zw_3 zr_102_11 rfl ?_
        refine zw_3 zr_102_12 rfl ?_
        refine zw_C zr_102_13 (Or.inl rfl) zm_50 rfl rfl ⟨Nat.le_of_ble_eq_true rfl, Nat.le_of_ble_eq_true rfl, Nat.le_of_ble_eq_true rfl, rfl, by decide⟩ (by omega) (P := (fun v m' => zW E (d) 102 16 [(2, 0), (0, a0), (0, a1), (0, a2), (0, a3), (0, a4)] (if v.1 = 9 then [] else v :: []) m' Q)) ?_ (fun _ _ h => h)
        generalize hQ1 : (fun v m' => zW E (d) 102 16 [(2, 0), (0, a0), (0, a1), (0, a2), (0, a3), (0, a4)] (if v.1 = 9 then [] else v :: []) m' Q) = Q1
        show zW E (d - 1) 50 0 [(2, 1), (0, a1), (0, a2)] [] m0 Q1
        refine zw_7 zr_50_0 rfl ?_
        refine zw_3 zr_50_1 rfl ?_
        refine zw_C zr_50_2 (Or.inl rfl) zm_49 rfl rfl ⟨Nat.le_of_ble_eq_true rfl, Nat.le_of_ble_eq_true rfl, Nat.le_of_ble_eq_true rfl, rfl, by decide⟩ (by omega) (P := (fun v m' => zW E (d - 1) 50 5 [(2, 1), (0, a1), (0, a2)] (if v.1 = 9 then [] else v :: []) m' Q1)) ?_ (fun _ _ h => h)
        generalize hQ2 : (fun v m' => zW E (d - 1) 50 5 [(2, 1), (0, a1), (0, a2)] (if v.1 = 9 then [] else v :: []) m' Q1) = Q2
        show zW E (d - 1 - 1) 49 0 [(2, 1), (0, a1)] [] m0 Q2
        refine zw_3 zr_49_0 rfl ?_
        refine zw_40_0 zr_49_1 ?_ ?_
        · intro h11
          refine zw_push zr_49_16 ?_
          refine zw_R zr_49_17 (by decide) zm_49 (v := (0, 0)) (zRetB (by omega)) ?_
          rw [← hQ2]
          show zW E (d - 1) 50 5 [(2, 1), (0, a1), (0, a2)] [(0, 0)] m0 Q1
          refine zw_40_1 zr_50_5 ?_ ?_
          · intro h12
            refine zw_push zr_50_25 ?_
            refine zw_R zr_50_26 (by decide) zm_50 (v := (0, 0)) (zRetB (by omega)) ?_
            rw [← hQ1]
            show zW E (d) 102 16 [(2, 0), (0, a0), (0, a1), (0, a2), (0, a3), (0, a4)] [(0, 0)] m0 Q
            refine zw_40_1 zr_102_16 ?_ ?_
            · intro h13
              refine zw_push zr_102_40 ?_
              refine zw_R zr_102_42 (by decide) zm_102 (v := (0, (-2))) rfl ?_
              rw [← hQ]; exact ⟨_, rfl, by omega, by omega, hI0, hF0⟩
            · intro h14; omega
          · intro h15; omega
        · intro h16
          refine zw_3 zr_49_4 rfl ?_
          refine zw_7 zr_49_5 rfl ?_
          obtain ⟨f17, ef17⟩ : ∃ v, m0 1 0 = v := ⟨_, rfl⟩
          have bf17 := ib_1_0 hI0
          rw [ef17] at bf17
          refine zw_46i zr_49_6 ef17 rfl rfl rfl ?_
          refine zw_41_3 zr_49_9 ?_ ?_
          · intro h18
            refine zw_push zr_49_16 ?_
            refine zw_R zr_49_17 (by decide) zm_49 (v := (0, 0)) (zRetB (by omega)) ?_
            rw [← hQ2]
            show zW E (d - 1) 50 5 [(2, 1), (0, a1), (0, a2)] [(0, 0)] m0 Q1
            refine zw_40_1 zr_50_5 ?_ ?_
            · intro h19
              refine zw_push zr_50_25 ?_
              refine zw_R zr_50_26 (by decide) zm_50 (v := (0, 0)) (zRetB (by omega)) ?_
              rw [← hQ1]
              show zW E (d) 102 16 [(2, 0), (0, a0), (0, a1), (0, a2), (0, a3), (0, a4)] [(0, 0)] m0 Q
              refine zw_40_1 zr_102_16 ?_ ?_
              · intro h20
                refine zw_push zr_102_40 ?_
                refine zw_R zr_102_42 (by decide) zm_102 (v := (0, (-2))) rfl ?_
                rw [← hQ]; exact ⟨_, rfl, by omega, by omega, hI0, hF0⟩
              · intro h21; omega
            · intro h22; omega
          · intro h23
            refine zw_push zr_49_12 ?_
            refine zw_42 zr_49_13 ?_
            refine zw_R zr_49_17 (by decide) zm_49 (v := (0, 1)) (zRetB (by omega)) ?_
            rw [← hQ2]
            show zW E (d - 1) 50 5 [(2, 1), (0, a1), (0, a2)] [(0, 1)] m0 Q1
            refine zw_40_1 zr_50_5 ?_ ?_
            · intro h24; omega
            · intro h25
              refine zw_7 zr_50_8 rfl ?_
              refine zw_3 zr_50_9 rfl ?_
              refine zw_C zr_50_10 (Or.inl rfl) zm_49 rfl rfl ⟨Nat.le_of_ble_eq_true rfl, Nat.le_of_ble_eq_true rfl, Nat.le_of_ble_eq_true rfl, rfl, by decide⟩ (by omega) (P := (fun v m' => zW E (d - 1) 50 13 [(2, 1), (0, a1), (0, a2)] (if v.1 = 9 then [] else v :: []) m' Q1)) ?_ (fun _ _ h => h)
              generalize hQ2 : (fun v m' => zW E (d - 1) 50 13 [(2, 1), (0, a1), (0, a2)] (if v.1 = 9 then [] else v :: []) m' Q1) = Q2
              show zW E (d - 1 - 1) 49 0 [(2, 1), (0, a2)] [] m0 Q2
              refine zw_3 zr_49_0 rfl ?_
              refine zw_40_0 zr_49_1 ?_ ?_
              · intro h26
                refine zw_push zr_49_16 ?_
                refine zw_R zr_49_17 (by decide) zm_49 (v := (0, 0)) (zRetB (by omega)) ?_
                rw [← hQ2]
                show zW E (d - 1) 50 13 [(2, 1), (0, a1), (0, a2)] [(0, 0)] m0 Q1
                refine zw_40_1 zr_50_13 ?_ ?_
                · intro h27
                  refine zw_push zr_50_25 ?_
                  refine zw_R zr_50_26 (by decide) zm_50 (v := (0, 0)) (zRetB (by omega)) ?_
                  rw [← hQ1]
                  show zW E (d) 102 16 [(2, 0), (0, a0), (0, a1), (0, a2), (0, a3), (0, a4)] [(0, 0)] m0 Q
                  refine zw_40_1 zr_102_16 ?_ ?_
                  · intro h28
                    refine zw_push zr_102_40 ?_
                    refine zw_R zr_102_42 (by decide) zm_102 (v := (0, (-2))) rfl ?_
                    rw [← hQ]; exact ⟨_, rfl, by omega, by omega, hI0, hF0⟩
                  · intro h29; omega
                · intro h30; omega
              · intro h31
                refine zw_3 zr_49_4 rfl ?_
                refine zw_7 zr_49_5 rfl ?_
                refine zw_46i zr_49_6 ef17 rfl rfl rfl ?_
                refine zw_41_3 zr_49_9 ?_ ?_
                · intro h32
                  refine zw_push zr_49_16 ?_
                  refine zw_R zr_49_17 (by decide) zm_49 (v := (0, 0)) (zRetB (by omega)) ?_
                  rw [← hQ2]
                  show zW E (d - 1) 50 13 [(2, 1), (0, a1), (0, a2)] [(0, 0)] m0 Q1
                  refine zw_40_1 zr_50_13 ?_ ?_
                  · intro h33
                    refine zw_push zr_50_25 ?_
                    refine zw_R zr_50_26 (by decide) zm_50 (v := (0, 0)) (zRetB (by omega)) ?_
                    rw [← hQ1]
                    show zW E (d) 102 16 [(2, 0), (0, a0), (0, a1), (0, a2), (0, a3), (0, a4)] [(0, 0)] m0 Q
                    refine zw_40_1 zr_102_16 ?_ ?_
                    · intro h34
                      refine zw_push zr_102_40 ?_
                      refine zw_R zr_102_42 (by decide) zm_102 (v := (0, (-2))) rfl ?_
                      rw [← hQ]; exact ⟨_, rfl, by omega, by omega, hI0, hF0⟩
                    · intro h35; omega
                  · intro h36; omega
                · intro h37
                  refine zw_push zr_49_12 ?_
                  refine zw_42 zr_49_13 ?_
                  refine zw_R zr_49_17 (by decide) zm_49 (v := (0, 1)) (zRetB (by omega)) ?_
                  rw [← hQ2]
                  show zW E (d - 1) 50 13 [(2, 1), (0, a1), (0, a2)] [(0, 1)] m0 Q1
                  refine zw_40_1 zr_50_13 ?_ ?_
                  · intro h38; omega
                  · intro h39
                    refine zw_3 zr_50_16 rfl ?_
                    refine zw_3 zr_50_17 rfl ?_
                    refine zw_41_1 zr_50_18 ?_ ?_
                    · intro h40
                      refine zw_push zr_50_25 ?_
                      refine zw_R zr_50_26 (by decide) zm_50 (v := (0, 0)) (zRetB (by omega)) ?_
                      rw [← hQ1]
                      show zW E (d) 102 16 [(2, 0), (0, a0), (0, a1), (0, a2), (0, a3), (0, a4)] [(0, 0)] m0 Q
                      refine zw_40_1 zr_102_16 ?_ ?_
                      · intro h41
                        refine zw_push zr_102_40 ?_
                        refine zw_R zr_102_42 (by decide) zm_102 (v := (0, (-2))) rfl ?_
                        rw [← hQ]; exact ⟨_, rfl, by omega, by omega, hI0, hF0⟩
                      · intro h42; omega
                    · intro h43
                      refine zw_push zr_50_21 ?_
                      refine zw_42 zr_50_22 ?_
                      refine zw_R zr_50_26 (by decide) zm_50 (v := (0, 1)) (zRetB (by omega)) ?_
                      rw [← hQ1]
                      show zW E (d) 102 16 [(2, 0), (0, a0), (0, a1), (0, a2), (0, a3), (0, a4)] [(0, 1)] m0 Q
                      refine zw_40_1 zr_102_16 ?_ ?_
                      · intro h44; omega
                      · intro h45
                        refine zw_4 zr_102_19 rfl ?_
                        refine zw_push zr_102_21 ?_
                        refine zw_push zr_102_22 ?_
                        refine zw_C zr_102_23 (Or.inr rfl) zm_100 rfl rfl ⟨Nat.le_of_ble_eq_true rfl, Nat.le_of_ble_eq_true rfl, Nat.le_of_ble_eq_true rfl, rfl, by decide⟩ (by omega) (P := (fun v m' => zW E (d) 102 26 [(2, 0), (0, a0), (0, a1), (0, a2), (0, a3), (0, a4)] (if v.1 = 9 then [] else v :: []) m' Q)) ?_ (fun _ _ h => h)
                        generalize hQ1 : (fun v m' => zW E (d) 102 26 [(2, 0), (0, a0), (0, a1), (0, a2), (0, a3), (0, a4)] (if v.1 = 9 then [] else v :: []) m' Q) = Q1
                        show zW E (d - 1) 100 0 [(0, a3), (0, 0), (0, 2)] [] m0 Q1
                        refine zw_3 zr_100_0 rfl ?_
                        refine zw_3 zr_100_1 rfl ?_
                        refine zw_41_0 zr_100_2 ?_ ?_
                        · intro h46
                          refine zw_push zr_100_14 ?_
                          refine zw_R zr_100_15 (by decide) zm_100 (v := (0, 0)) (zRetB (by omega)) ?_
                          rw [← hQ1]
                          show zW E (d) 102 26 [(2, 0), (0, a0), (0, a1), (0, a2), (0, a3), (0, a4)] [(0, 0)] m0 Q
                          refine zw_40_1 zr_102_26 ?_ ?_
                          · intro h47
                            refine zw_push zr_102_40 ?_
                            refine zw_R zr_102_42 (by decide) zm_102 (v := (0, (-2))) rfl ?_
                            rw [← hQ]; exact ⟨_, rfl, by omega, by omega, hI0, hF0⟩
                          · intro h48; omega
                        · intro h49
                          refine zw_3 zr_100_5 rfl ?_
                          refine zw_3 zr_100_6 rfl ?_
                          refine zw_41_2 zr_100_7 ?_ ?_
                          · intro h50
                            refine zw_push zr_100_14 ?_
                            refine zw_R zr_100_15 (by decide) zm_100 (v := (0, 0)) (zRetB (by omega)) ?_
                            rw [← hQ1]
                            show zW E (d) 102 26 [(2, 0), (0, a0), (0, a1), (0, a2), (0, a3), (0, a4)] [(0, 0)] m0 Q
                            refine zw_40_1 zr_102_26 ?_ ?_
                            · intro h51
                              refine zw_push zr_102_40 ?_
                              refine zw_R zr_102_42 (by decide) zm_102 (v := (0, (-2))) rfl ?_
                              rw [← hQ]; exact ⟨_, rfl, by omega, by omega, hI0, hF0⟩
                            · intro h52; omega
                          · intro h53
                            refine zw_push zr_100_10 ?_
                            refine zw_42 zr_100_11 ?_
                            refine zw_R zr_100_15 (by decide) zm_100 (v := (0, 1)) (zRetB (by omega)) ?_
                            rw [← hQ1]
                            show zW E (d) 102 26 [(2, 0), (0, a0), (0, a1), (0, a2), (0, a3), (0, a4)] [(0, 1)] m0 Q
                            refine zw_40_1 zr_102_26 ?_ ?_
                            · intro h54; omega
                            · intro h55
                              refine zw_3 zr_102_29 rfl ?_
                              refine zw_7 zr_102_30 rfl ?_
                              refine zw_46r (s := 1) zr_102_31 rfl rfl rfl rfl ?_
                              refine zw_C zr_102_34 (Or.inl rfl) zm_51 rfl rfl ⟨Nat.le_of_ble_eq_true rfl, Nat.le_of_ble_eq_true rfl, Nat.le_of_ble_eq_true rfl, rfl, by decide⟩ (by omega) (P := (fun v m' => zW E (d) 102 37 [(2, 0), (0, a0), (0, a1), (0, a2), (0, a3), (0, a4)] (if v.1 = 9 then [(0, a0)] else v :: [(0, a0)]) m' Q)) ?_ (fun _ _ h => h)
                              generalize hQ1 : (fun v m' => zW E (d) 102 37 [(2, 0), (0, a0), (0, a1), (0, a2), (0, a3), (0, a4)] (if v.1 = 9 then [(0, a0)] else v :: [(0, a0)]) m' Q) = Q1
                              show zW E (d - 1) 51 0 [(2, 1)] [] m0 Q1
                              refine zw_7 zr_51_0 rfl ?_
                              obtain ⟨f56, ef56⟩ : ∃ v, m0 1 1 = v := ⟨_, rfl⟩
                              have bf56 := ib_1_1 hI0
                              rw [ef56] at bf56
                              refine zw_46i zr_51_1 ef56 rfl rfl rfl ?_
                              refine zw_40_5 zr_51_4 ?_ ?_
                              · intro h57
                                refine zw_push zr_51_21 ?_
                                refine zw_R zr_51_22 (by decide) zm_51 (v := (0, 0)) rfl ?_
                                rw [← hQ1]
                                show zW E (d) 102 37 [(2, 0), (0, a0), (0, a1), (0, a2), (0, a3), (0, a4)] [(0, 0), (0, a0)] m0 Q
                                refine zw_41_3 zr_102_37 ?_ ?_
                                · intro h58
                                  refine zw_7 zr_102_43 rfl ?_
                                  refine zw_46r (s := 1) zr_102_44 rfl rfl rfl rfl ?_
                                  refine zw_46i zr_102_47 ef56 rfl rfl rfl ?_
                                  refine zw_push zr_102_50 ?_
                                  refine zw_41_0 zr_102_52 ?_ ?_
                                  · intro h59
                                    refine zw_7 zr_102_58 rfl ?_
                                    refine zw_46r (s := 1) zr_102_59 rfl rfl rfl rfl ?_
                                    refine zw_3 zr_102_62 rfl ?_
                                    refine zw_3 zr_102_63 rfl ?_
                                    refine zw_3 zr_102_64 rfl ?_
                                    refine zw_4 zr_102_65 rfl ?_
                                    refine zw_4 zr_102_67 rfl ?_
                                    refine zw_C zr_102_69 (Or.inl rfl) zm_52 rfl rfl ⟨Nat.le_of_ble_eq_true rfl, Nat.le_of_ble_eq_true rfl, Nat.le_of_ble_eq_true rfl, rfl, by decide⟩ (by omega) (P := (fun v m' => zW E (d) 102 72 [(2, 0), (0, a0), (0, a1), (0, a2), (0, a3), (0, a4)] (if v.1 = 9 then [] else v :: []) m' Q)) ?_ (fun _ _ h => h)
                                    generalize hQ1 : (fun v m' => zW E (d) 102 72 [(2, 0), (0, a0), (0, a1), (0, a2), (0, a3), (0, a4)] (if v.1 = 9 then [] else v :: []) m' Q) = Q1
                                    show zW E (d - 1) 52 0 [(2, 1), (0, a0), (0, a1), (0, a2), (0, a3), (0, a4), (9, 0)] [] m0 Q1
                                    refine zw_7 zr_52_0 rfl ?_
                                    refine zw_46i zr_52_1 ef56 rfl rfl rfl ?_
                                    refine zw_10 (L' := [(2, 1), (0, a0), (0, a1), (0, a2), (0, a3), (0, a4), (0, f56)]) zr_52_4 (Nat.le_of_ble_eq_true rfl) rfl ?_
                                    refine zw_7 zr_52_6 rfl ?_
                                    refine zw_46r (s := 5) zr_52_7 rfl rfl rfl rfl ?_
                                    refine zw_4 zr_52_10 rfl ?_
                                    refine zw_3 zr_52_12 rfl ?_
                                    refine zw_49 (c := 5) (len := 60) zr_52_13 rfl rfl (by omega) (by omega) ?_
                                    intro m60 em60
                                    have hIm60 : zInv m60 := by rw [em60]; exact iu_5 hI0 (by omega)
                                    have hFm60 : zFr W_102 m0 m60 := by rw [em60]; exact hF0.any rfl
                                    have km60_1_0 : m60 1 0 = f17 := by rw [em60, zUp_ne (by omega)]; exact ef17
                                    have km60_1_1 : m60 1 1 = f56 := by rw [em60, zUp_ne (by omega)]; exact ef56
                                    have km60_5_0 : m60 5 0 = a0 := by rw [em60, show (f56 : Int).toNat = 0 by omega]; exact zUp_eq _ _ _ _
                                    clear em60
                                    refine zw_7 zr_52_14 rfl ?_
                                    refine zw_46r (s := 6) zr_52_15 rfl rfl rfl rfl ?_
                                    refine zw_4 zr_52_18 rfl ?_
                                    refine zw_3 zr_52_20 rfl ?_
                                    refine zw_49 (c := 6) (len := 60) zr_52_21 rfl rfl (by omega) (by omega) ?_
                                    intro m61 em61
                                    have hIm61 : zInv m61 := by rw [em61]; exact iu_6 hIm60 (by omega)
                                    have hFm61 : zFr W_102 m0 m61 := by rw [em61]; exact hFm60.any rfl
                                    have km61_1_0 : m61 1 0 = f17 := by rw [em61, zUp_ne (by omega)]; exact km60_1_0
                                    have km61_1_1 : m61 1 1 = f56 := by rw [em61, zUp_ne (by omega)]; exact km60_1_1
                                    have km61_5_0 : m61 5 0 = a0 := by rw [em61, zUp_ne (by omega)]; exact km60_5_0
                                    have km61_6_0 : m61 6 0 = a1 := by rw [em61, show (f56 : Int).toNat = 0 by omega]; exact zUp_eq _ _ _ _
                                    clear em61
                                    refine zw_7 zr_52_22 rfl ?_
                                    refine zw_46r (s := 7) zr_52_23 rfl rfl rfl rfl ?_
                                    refine zw_4 zr_52_26 rfl ?_
                                    refine zw_3 zr_52_28 rfl ?_
                                    refine zw_49 (c := 7) (len := 60) zr_52_29 rfl rfl (by omega) (by omega) ?_
                                    intro m62 em62
                                    have hIm62 : zInv m62 := by rw [em62]; exact iu_7 hIm61 (by omega)
                                    have hFm62 : zFr W_102 m0 m62 := by rw [em62]; exact hFm61.any rfl
                                    have km62_1_0 : m62 1 0 = f17 := by rw [em62, zUp_ne (by omega)]; exact km61_1_0
                                    have km62_1_1 : m62 1 1 = f56 := by rw [em62, zUp_ne (by omega)]; exact km61_1_1
                                    have km62_5_0 : m62 5 0 = a0 := by rw [em62, zUp_ne (by omega)]; exact km61_5_0
                                    have km62_6_0 : m62 6 0 = a1 := by rw [em62, zUp_ne (by omega)]; exact km61_6_0
                                    have km62_7_0 : m62 7 0 = a2 := by rw [em62, show (f56 : Int).toNat = 0 by omega]; exact zUp_eq _ _ _ _
                                    clear em62
                                    refine zw_7 zr_52_30 rfl ?_
                                    refine zw_46r (s := 8) zr_52_31 rfl rfl rfl rfl ?_
                                    refine zw_4 zr_52_34 rfl ?_
                                    refine zw_4 zr_52_36 rfl ?_
                                    refine zw_49 (c := 8) (len := 60) zr_52_38 rfl rfl (by omega) (by omega) ?_
                                    intro m63 em63
                                    have hIm63 : zInv m63 := by rw [em63]; exact iu_8 hIm62 (by omega)
                                    have hFm63 : zFr W_102 m0 m63 := by rw [em63]; exact hFm62.any rfl
                                    have km63_1_0 : m63 1 0 = f17 := by rw [em63, zUp_ne (by omega)]; exact km62_1_0
                                    have km63_1_1 : m63 1 1 = f56 := by rw [em63, zUp_ne (by omega)]; exact km62_1_1
                                    have km63_5_0 : m63 5 0 = a0 := by rw [em63, zUp_ne (by omega)]; exact km62_5_0
                                    have km63_6_0 : m63 6 0 = a1 := by rw [em63, zUp_ne (by omega)]; exact km62_6_0
                                    have km63_7_0 : m63 7 0 = a2 := by rw [em63, zUp_ne (by omega)]; exact km62_7_0
                                    have km63_8_0 : m63 8 0 = a3 := by rw [em63, show (f56 : Int).toNat = 0 by omega]; exact zUp_eq _ _ _ _
                                    clear em63
                                    refine zw_4 zr_52_39 rfl ?_
                                    refine zw_40_1 zr_52_41 ?_ ?_
                                    · intro h64
                                      refine zw_7 zr_52_57 rfl ?_
                                      refine zw_43 zr_52_58 rfl ?_
                                      refine zw_46i zr_52_59 km63_1_1 rfl rfl rfl ?_
                                      refine zw_push zr_52_62 ?_
                                      refine zw_16 zr_52_63 (by omega) ?_
                                      refine zw_47 (c := 1) zr_52_64 rfl ⟨rfl, by decide, rfl⟩ ?_
                                      intro m65 em65
                                      have hIm65 : zInv m65 := by rw [em65]; exact hIm63.bd (r := 1) (k := 1) (lo := 0) (hi := 60) rfl (by omega) (by decide) (by decide) (by decide)
                                      have hFm65 : zFr W_102 m0 m65 := by rw [em65]; exact hFm63.up rfl
                                      have km65_1_0 : m65 1 0 = f17 := by rw [em65, zUp_ne (by omega)]; exact km63_1_0
                                      have km65_5_0 : m65 5 0 = a0 := by rw [em65, zUp_ne (by omega)]; exact km63_5_0
                                      have km65_6_0 : m65 6 0 = a1 := by rw [em65, zUp_ne (by omega)]; exact km63_6_0
                                      have km65_7_0 : m65 7 0 = a2 := by rw [em65, zUp_ne (by omega)]; exact km63_7_0
                                      have km65_8_0 : m65 8 0 = a3 := by rw [em65, zUp_ne (by omega)]; exact km63_8_0
                                      have km65_1_1 : m65 1 1 = (f56 + 1) := by rw [em65]; exact zUp_eq _ _ _ _
                                      clear em65
                                      refine zw_4 zr_52_67 rfl ?_
                                      refine zw_R zr_52_69 (by decide) zm_52 (v := (0, f56)) rfl ?_
                                      rw [← hQ1]
                                      show zW E (d) 102 72 [(2, 0), (0, a0), (0, a1), (0, a2), (0, a3), (0, a4)] [(0, f56)] m65 Q
                                      refine zw_R zr_102_72 (by decide) zm_102 (v := (0, f56)) rfl ?_
                                      rw [← hQ]; exact ⟨_, rfl, by omega, by omega, hIm65, hFm65⟩
                                    · intro h66
                                      refine zw_7 zr_52_44 rfl ?_
                                      refine zw_43 zr_52_45 rfl ?_
                                      obtain ⟨f67, ef67⟩ : ∃ v, m63 1 2 = v := ⟨_, rfl⟩
                                      have bf67 := hIm63.fl (c := 1) (k := 2) rfl
                                      rw [ef67] at bf67
                                      refine zw_46l zr_52_46 ef67 rfl rfl rfl ?_
                                      refine zw_push zr_52_49 ?_
                                      refine zw_4 zr_52_50 rfl ?_
                                      refine zw_33h zr_52_52 ?_
                                      intro x68 hx68a hx68b
                                      refine zw_31h zr_52_53 ?_
                                      intro x69 hx69a hx69b
                                      refine zw_47 (c := 1) zr_52_54 rfl ⟨rfl, by decide, rfl⟩ ?_
                                      intro m70 em70
                                      have hIm70 : zInv m70 := by rw [em70]; exact hIm63.anyl (by omega) (by decide) rfl (by decide) (by decide)
                                      have hFm70 : zFr W_102 m0 m70 := by rw [em70]; exact hFm63.up rfl
                                      have km70_1_0 : m70 1 0 = f17 := by rw [em70, zUp_ne (by omega)]; exact km63_1_0
                                      have km70_1_1 : m70 1 1 = f56 := by rw [em70, zUp_ne (by omega)]; exact km63_1_1
                                      have km70_5_0 : m70 5 0 = a0 := by rw [em70, zUp_ne (by omega)]; exact km63_5_0
                                      have km70_6_0 : m70 6 0 = a1 := by rw [em70, zUp_ne (by omega)]; exact km63_6_0
                                      have km70_7_0 : m70 7 0 = a2 := by rw [em70, zUp_ne (by omega)]; exact km63_7_0
                                      have km70_8_0 : m70 8 0 = a3 := by rw [em70, zUp_ne (by omega)]; exact km63_8_0
                                      have km70_1_2 : m70 1 2 = x69 := by rw [em70]; exact zUp_eq _ _ _ _
                                      clear em70
                                      refine zw_7 zr_52_57 rfl ?_
                                      refine zw_43 zr_52_58 rfl ?_
                                      refine zw_46i zr_52_59 km70_1_1 rfl rfl rfl ?_
                                      refine zw_push zr_52_62 ?_
                                      refine zw_16 zr_52_63 (by omega) ?_
                                      refine zw_47 (c := 1) zr_52_64 rfl ⟨rfl, by decide, rfl⟩ ?_
                                      intro m71 em71
                                      have hIm71 : zInv m71 := by rw [em71]; exact hIm70.bd (r := 1) (k := 1) (lo := 0) (hi := 60) rfl (by omega) (by decide) (by decide) (by decide)
                                      have hFm71 : zFr W_102 m0 m71 := by rw [em71]; exact hFm70.up rfl
                                      have km71_1_0 : m71 1 0 = f17 := by rw [em71, zUp_ne (by omega)]; exact km70_1_0
                                      have km71_5_0 : m71 5 0 = a0 := by rw [em71, zUp_ne (by omega)]; exact km70_5_0
                                      have km71_6_0 : m71 6 0 = a1 := by rw [em71, zUp_ne (by omega)]; exact km70_6_0
                                      have km71_7_0 : m71 7 0 = a2 := by rw [em71, zUp_ne (by omega)]; exact km70_7_0
                                      have km71_8_0 : m71 8 0 = a3 := by rw [em71, zUp_ne (by omega)]; exact km70_8_0
                                      have km71_1_2 : m71 1 2 = x69 := by rw [em71, zUp_ne (by omega)]; exact km70_1_2
                                      have km71_1_1 : m71 1 1 = (f56 + 1) := by rw [em71]; exact zUp_eq _ _ _ _
                                      clear em71
                                      refine zw_4 zr_52_67 rfl ?_
                                      refine zw_R zr_52_69 (by decide) zm_52 (v := (0, f56)) rfl ?_
                                      rw [← hQ1]
                                      show zW E (d) 102 72 [(2, 0), (0, a0), (0, a1), (0, a2), (0, a3), (0, a4)] [(0, f56)] m71 Q
                                      refine zw_R zr_102_72 (by decide) zm_102 (v := (0, f56)) rfl ?_
                                      rw [← hQ]; exact ⟨_, rfl, by omega, by omega, hIm71, hFm71⟩
                                  · intro h72; omega
                                · intro h73; omega
                              · intro h74
                                refine zw_7 zr_51_7 rfl ?_
                                refine zw_46r (s := 5) zr_51_8 rfl rfl rfl rfl ?_
                                refine zw_7 zr_51_11 rfl ?_
                                refine zw_46i zr_51_12 ef56 rfl rfl rfl ?_
                                refine zw_push zr_51_15 ?_
                                refine zw_17 zr_51_16 (by omega) ?_
                                refine zw_48 (c := 5) (len := 60) zr_51_17 rfl rfl (by omega) (by omega) ?_
                                intro x75 ex75
                                have bx75 := ib_5 hI0 (k := ((f56 - 1)).toNat) (by omega)
                                rw [← ex75] at bx75
                                clear ex75
                                refine zw_42 zr_51_18 ?_
                                refine zw_R zr_51_22 (by decide) zm_51 (v := (0, x75)) rfl ?_
                                rw [← hQ1]
                                show zW E (d) 102 37 [(2, 0), (0, a0), (0, a1), (0, a2), (0, a3), (0, a4)] [(0, x75), (0, a0)] m0 Q
                                refine zw_41_3 zr_102_37 ?_ ?_
                                · intro h76
                                  refine zw_7 zr_102_43 rfl ?_
                                  refine zw_46r (s := 1) zr_102_44 rfl rfl rfl rfl ?_
                                  refine zw_46i zr_102_47 ef56 rfl rfl rfl ?_
                                  refine zw_push zr_102_50 ?_
                                  refine zw_41_0 zr_102_52 ?_ ?_
                                  · intro h77
                                    refine zw_7 zr_102_58 rfl ?_
                                    refine zw_46r (s := 1) zr_102_59 rfl rfl rfl rfl ?_
                                    refine zw_3 zr_102_62 rfl ?_
                                    refine zw_3 zr_102_63 rfl ?_
                                    refine zw_3 zr_102_64 rfl ?_
                                    refine zw_4 zr_102_65 rfl ?_
                                    refine zw_4 zr_102_67 rfl ?_
                                    refine zw_C zr_102_69 (Or.inl rfl) zm_52 rfl rfl ⟨Nat.le_of_ble_eq_true rfl, Nat.le_of_ble_eq_true rfl, Nat.le_of_ble_eq_true rfl, rfl, by decide⟩ (by omega) (P := (fun v m' => zW E (d) 102 72 [(2, 0), (0, a0), (0, a1), (0, a2), (0, a3), (0, a4)] (if v.1 = 9 then [] else v :: []) m' Q)) ?_ (fun _ _ h => h)
                                    generalize hQ1 : (fun v m' => zW E (d) 102 72 [(2, 0), (0, a0), (0, a1), (0, a2), (0, a3), (0, a4)] (if v.1 = 9 then [] else v :: []) m' Q) = Q1
                                    show zW E (d - 1) 52 0 [(2, 1), (0, a0), (0, a1), (0, a2), (0, a3), (0, a4), (9, 0)] [] m0 Q1
                                    refine zw_7 zr_52_0 rfl ?_
                                    refine zw_46i zr_52_1 ef56 rfl rfl rfl ?_
                                    refine zw_10 (L' := [(2, 1), (0, a0), (0, a1), (0, a2), (0, a3), (0, a4), (0, f56)]) zr_52_4 (Nat.le_of_ble_eq_true rfl) rfl ?_
                                    refine zw_7 zr_52_6 rfl ?_
                                    refine zw_46r (s := 5) zr_52_7 rfl rfl rfl rfl ?_
                                    refine zw_4 zr_52_10 rfl ?_
                                    refine zw_3 zr_52_12 rfl ?_
                                    refine zw_49 (c := 5) (len := 60) zr_52_13 rfl rfl (by omega) (by omega) ?_
                                    intro m78 em78
                                    have hIm78 : zInv m78 := by rw [em78]; exact iu_5 hI0 (by omega)
                                    have hFm78 : zFr W_102 m0 m78 := by rw [em78]; exact hF0.any rfl
                                    have km78_1_0 : m78 1 0 = f17 := by rw [em78, zUp_ne (by omega)]; exact ef17
                                    have km78_1_1 : m78 1 1 = f56 := by rw [em78, zUp_ne (by omega)]; exact ef56
                                    clear em78
                                    refine zw_7 zr_52_14 rfl ?_
                                    refine zw_46r (s := 6) zr_52_15 rfl rfl rfl rfl ?_
                                    refine zw_4 zr_52_18 rfl ?_
                                    refine zw_3 zr_52_20 rfl ?_
                                    refine zw_49 (c := 6) (len := 60) zr_52_21 rfl rfl (by omega) (by omega) ?_
                                    intro m79 em79
                                    have hIm79 : zInv m79 := by rw [em79]; exact iu_6 hIm78 (by omega)
                                    have hFm79 : zFr W_102 m0 m79 := by rw [em79]; exact hFm78.any rfl
                                    have km79_1_0 : m79 1 0 = f17 := by rw [em79, zUp_ne (by omega)]; exact km78_1_0
                                    have km79_1_1 : m79 1 1 = f56 := by rw [em79, zUp_ne (by omega)]; exact km78_1_1
                                    clear em79
                                    refine zw_7 zr_52_22 rfl ?_
                                    refine zw_46r (s := 7) zr_52_23 rfl rfl rfl rfl ?_
                                    refine zw_4 zr_52_26 rfl ?_
                                    refine zw_3 zr_52_28 rfl ?_
                                    refine zw_49 (c := 7) (len := 60) zr_52_29 rfl rfl (by omega) (by omega) ?_
                                    intro m80 em80
                                    have hIm80 : zInv m80 := by rw [em80]; exact iu_7 hIm79 (by omega)
                                    have hFm80 : zFr W_102 m0 m80 := by rw [em80]; exact hFm79.any rfl
                                    have km80_1_0 : m80 1 0 = f17 := by rw [em80, zUp_ne (by omega)]; exact km79_1_0
                                    have km80_1_1 : m80 1 1 = f56 := by rw [em80, zUp_ne (by omega)]; exact km79_1_1
                                    clear em80
                                    refine zw_7 zr_52_30 rfl ?_
                                    refine zw_46r (s := 8) zr_52_31 rfl rfl rfl rfl ?_
                                    refine zw_4 zr_52_34 rfl ?_
                                    refine zw_4 zr_52_36 rfl ?_
                                    refine zw_49 (c := 8) (len := 60) zr_52_38 rfl rfl (by omega) (by omega) ?_
                                    intro m81 em81
                                    have hIm81 : zInv m81 := by rw [em81]; exact iu_8 hIm80 (by omega)
                                    have hFm81 : zFr W_102 m0 m81 := by rw [em81]; exact hFm80.any rfl
                                    have km81_1_0 : m81 1 0 = f17 := by rw [em81, zUp_ne (by omega)]; exact km80_1_0
                                    have km81_1_1 : m81 1 1 = f56 := by rw [em81, zUp_ne (by omega)]; exact km80_1_1
                                    clear em81
                                    refine zw_4 zr_52_39 rfl ?_
                                    refine zw_40_1 zr_52_41 ?_ ?_
                                    · intro h82
                                      refine zw_7 zr_52_57 rfl ?_
                                      refine zw_43 zr_52_58 rfl ?_
                                      refine zw_46i zr_52_59 km81_1_1 rfl rfl rfl ?_
                                      refine zw_push zr_52_62 ?_
                                      refine zw_16 zr_52_63 (by omega) ?_
                                      refine zw_47 (c := 1) zr_52_64 rfl ⟨rfl, by decide, rfl⟩ ?_
                                      intro m83 em83
                                      have hIm83 : zInv m83 := by rw [em83]; exact hIm81.bd (r := 1) (k := 1) (lo := 0) (hi := 60) rfl (by omega) (by decide) (by decide) (by decide)
                                      have hFm83 : zFr W_102 m0 m83 := by rw [em83]; exact hFm81.up rfl
                                      have km83_1_0 : m83 1 0 = f17 := by rw [em83, zUp_ne (by omega)]; exact km81_1_0
                                      have km83_1_1 : m83 1 1 = (f56 + 1) := by rw [em83]; exact zUp_eq _ _ _ _
                                      clear em83
                                      refine zw_4 zr_52_67 rfl ?_
                                      refine zw_R zr_52_69 (by decide) zm_52 (v := (0, f56)) rfl ?_
                                      rw [← hQ1]
                                      show zW E (d) 102 72 [(2, 0), (0, a0), (0, a1), (0, a2), (0, a3), (0, a4)] [(0, f56)] m83 Q
                                      refine zw_R zr_102_72 (by decide) zm_102 (v := (0, f56)) rfl ?_
                                      rw [← hQ]; exact ⟨_, rfl, by omega, by omega, hIm83, hFm83⟩
                                    · intro h84
                                      refine zw_7 zr_52_44 rfl ?_
                                      refine zw_43 zr_52_45 rfl ?_
                                      obtain ⟨f85, ef85⟩ : ∃ v, m81 1 2 = v := ⟨_, rfl⟩
                                      have bf85 := hIm81.fl (c := 1) (k := 2) rfl
                                      rw [ef85] at bf85
                                      refine zw_46l zr_52_46 ef85 rfl rfl rfl ?_
                                      refine zw_push zr_52_49 ?_
                                      refine zw_4 zr_52_50 rfl ?_
                                      refine zw_33h zr_52_52 ?_
                                      intro x86 hx86a hx86b
                                      refine zw_31h zr_52_53 ?_
                                      intro x87 hx87a hx87b
                                      refine zw_47 (c := 1) zr_52_54 rfl ⟨rfl, by decide, rfl⟩ ?_
                                      intro m88 em88
                                      have hIm88 : zInv m88 := by rw [em88]; exact hIm81.anyl (by omega) (by decide) rfl (by decide) (by decide)
                                      have hFm88 : zFr W_102 m0 m88 := by rw [em88]; exact hFm81.up rfl
                                      have km88_1_0 : m88 1 0 = f17 := by rw [em88, zUp_ne (by omega)]; exact km81_1_0
                                      have km88_1_1 : m88 1 1 = f56 := by rw [em88, zUp_ne (by omega)]; exact km81_1_1
                                      have km88_1_2 : m88 1 2 = x87 := by rw [em88]; exact zUp_eq _ _ _ _
                                      clear em88
                                      refine zw_7 zr_52_57 rfl ?_
                                      refine zw_43 zr_52_58 rfl ?_
                                      refine zw_46i zr_52_59 km88_1_1 rfl rfl rfl ?_
                                      refine zw_push zr_52_62 ?_
                                      refine zw_16 zr_52_63 (by omega) ?_
                                      refine zw_47 (c := 1) zr_52_64 rfl ⟨rfl, by decide, rfl⟩ ?_
                                      intro m89 em89
                                      have hIm89 : zInv m89 := by rw [em89]; exact hIm88.bd (r := 1) (k := 1) (lo := 0) (hi := 60) rfl (by omega) (by decide) (by decide) (by decide)
                                      have hFm89 : zFr W_102 m0 m89 := by rw [em89]; exact hFm88.up rfl
                                      have km89_1_0 : m89 1 0 = f17 := by rw [em89, zUp_ne (by omega)]; exact km88_1_0
                                      have km89_1_2 : m89 1 2 = x87 := by rw [em89, zUp_ne (by omega)]; exact km88_1_2
                                      have km89_1_1 : m89 1 1 = (f56 + 1) := by rw [em89]; exact zUp_eq _ _ _ _
                                      clear em89
                                      refine zw_4 zr_52_67 rfl ?_
                                      refine zw_R zr_52_69 (by decide) zm_52 (v := (0, f56)) rfl ?_
                                      rw [← hQ1]
                                      show zW E (d) 102 72 [(2, 0), (0, a0), (0, a1), (0, a2), (0, a3), (0, a4)] [(0, f56)] m89 Q
                                      refine zw_R zr_102_72 (by decide) zm_102 (v := (0, f56)) rfl ?_
                                      rw [← hQ]; exact ⟨_, rfl, by omega, by omega, hIm89, hFm89⟩
                                  · intro h90
                                    refine zw_push zr_102_55 ?_
                                    refine zw_R zr_102_57 (by decide) zm_102 (v := (0, (-4))) rfl ?_
                                    rw [← hQ]; exact ⟨_, rfl, by omega, by omega, hI0, hF0⟩
                                · intro h91
                                  refine zw_push zr_102_40 ?_
                                  refine zw_R zr_102_42 (by decide) zm_102 (v := (0, (-2))) rfl ?_
                                  rw [← hQ]; exact ⟨_, rfl, by omega, by omega, hI0, hF0⟩

abbrev W_146 : List (Nat × Nat) := [(70, 1000)]
set_option maxHeartbeats 8000000 in
theorem th_146 {E : zE} {d : Nat} {m0 : zM} {a0 : Int} {a1 : Int} {a2 : Int} {a3 : Int} {a4 : Int} (hd : 3 ≤ d) (hI0 : zInv m0) (ha0 : (-2147483648) ≤ a0 ∧ a0 ≤ 2147483647) (ha1 : (-2147483648) ≤ a1 ∧ a1 ≤ 2147483647) (ha2 : (-2147483648) ≤ a2 ∧ a2 ≤ 2147483647) (ha3 : (-2147483648) ≤ a3 ∧ a3 ≤ 2147483647) (ha4 : 0 ≤ a4 ∧ a4 ≤ 1) : zC E d 146 [(2, 69), (0, a0), (0, a1), (0, a2), (0, a3), (0, a4)] m0 (fun v m' => ∃ r : Int, v = (0, r) ∧ (-4) ≤ r ∧ r ≤ 59 ∧ zInv m' ∧ zFr W_146 m0 m') := by
  have hF0 : zFr W_146 m0 m0 := zFr.rfl
  generalize hQ : (fun (v : zV) (m' : zM) => ∃ r : Int, v = (0, r) ∧ (-4) ≤ r ∧ r ≤ 59 ∧ zInv m' ∧ zFr W_146 m0 m') = Q
  show zW E d 146 0 [(2, 69), (0, a0), (0, a1), (0, a2), (0, a3), (0, a4), (9, 0), (9, 0)] [] m0 Q
  refine zw_7 zr_146_0 rfl ?_
  refine zw_C zr_146_1 (Or.inl rfl) zm_142 rfl rfl ⟨Nat.le_of_ble_eq_true rfl, Nat.le_of_ble_eq_true rfl, Nat.le_of_ble_eq_true rfl, rfl, by decide⟩ (by omega) (P := (fun v m' => zW E (d) 146 4 [(2, 69), (0, a0), (0, a1), (0, a2), (0, a3), (0, a4), (9, 0), (9, 0)] (if v.1 = 9 then [] else v :: []) m' Q)) ?_ (fun _ _ h => h)
  generalize hQ1 : (fun v m' => zW E (d) 146 4 [(2, 69), (0, a0), (0, a1), (0, a2), (0, a3), (0, a4), (9, 0), (9, 0)] (if v.1 = 9 then [] else v :: []) m' Q) = Q1
  show zW E (d - 1) 142 0 [(2, 69)] [] m0 Q1
  refine zw_7 zr_142_0 rfl ?_
  refine zw_46r (s := 70) zr_142_1 rfl rfl rfl rfl ?_
  refine zw_push zr_142_4 ?_
  obtain ⟨f1, ef1⟩ : ∃ v, m0 70 823 = v := ⟨_, rfl⟩
  have bf1 : 0 ≤ m0 70 823 ∧ m0 70 823 ≤ 60 := ib_70_meetings hI0 (by omega)
  rw [ef1] at bf1
  refine zw_48k (c := 70) (len := 826) zr_142_7 rfl rfl (by omega) (by omega) (show (823 : Int).toNat = 823 by omega) ef1 ?_
  refine zw_R zr_142_8 (by decide) zm_142 (v := (0, f1)) rfl ?_
  rw [← hQ1]
  show zW E (d) 146 4 [(2, 69), (0, a0), (0, a1), (0, a2), (0, a3), (0, a4), (9, 0), (9, 0)] [(0, f1)] m0 Q
  refine zw_40_4 zr_146_4 ?_ ?_
  · intro h2
    refine zw_7 zr_146_11 rfl ?_
    refine zw_7 zr_146_12 rfl ?_
    refine zw_C zr_146_13 (Or.inl rfl) zm_142 rfl rfl ⟨Nat.le_of_ble_eq_true rfl, Nat.le_of_ble_eq_true rfl, Nat.le_of_ble_eq_true rfl, rfl, by decide⟩ (by omega) (P := (fun v m' => zW E (d) 146 16 [(2, 69), (0, a0), (0, a1), (0, a2), (0, a3), (0, a4), (9, 0), (9, 0)] (if v.1 = 9 then [(2, 69)] else v :: [(2, 69)]) m' Q)) ?_ (fun _ _ h => h)
    generalize hQ1 : (fun v m' => zW E (d) 146 16 [(2, 69), (0, a0), (0, a1), (0, a2), (0, a3), (0, a4), (9, 0), (9, 0)] (if v.1 = 9 then [(2, 69)] else v :: [(2, 69)]) m' Q) = Q1
    show zW E (d - 1) 142 0 [(2, 69)] [] m0 Q1
    refine zw_7 zr_142_0 rfl ?_
    refine zw_46r (s := 70) zr_142_1 rfl rfl rfl rfl ?_
    refine zw_push zr_142_4 ?_
    refine zw_48k (c := 70) (len := 826) zr_142_7 rfl rfl (by omega) (by omega) (show (823 : Int).toNat = 823 by omega) ef1 ?_
    refine zw_R zr_142_8 (by decide) zm_142 (v := (0, f1)) rfl ?_
    rw [← hQ1]
    show zW E (d) 146 16 [(2, 69), (0, a0), (0, a1), (0, a2), (0, a3), (0, a4), (9, 0), (9, 0)] [(0, f1), (2, 69)] m0 Q
    refine zw_push zr_146_16 ?_
    refine zw_17 zr_146_17 (by omega) ?_
    refine zw_push zr_146_18 ?_
    refine zw_C zr_146_19 (Or.inl rfl) zm_144 rfl rfl ⟨Nat.le_of_ble_eq_true rfl, Nat.le_of_ble_eq_true rfl, Nat.le_of_ble_eq_true rfl, rfl, by decide⟩ (by omega) (P := (fun v m' => zW E (d) 146 22 [(2, 69), (0, a0), (0, a1), (0, a2), (0, a3), (0, a4), (9, 0), (9, 0)] (if v.1 = 9 then [] else v :: []) m' Q)) ?_ (fun _ _ h => h)
    generalize hQ1 : (fun v m' => zW E (d) 146 22 [(2, 69), (0, a0), (0, a1), (0, a2), (0, a3), (0, a4), (9, 0), (9, 0)] (if v.1 = 9 then [] else v :: []) m' Q) = Q1
    show zW E (d - 1) 144 0 [(2, 69), (0, (f1 - 1)), (0, 0)] [] m0 Q1
    refine zw_7 zr_144_0 rfl ?_
    refine zw_46r (s := 70) zr_144_1 rfl rfl rfl rfl ?_
    refine zw_push zr_144_4 ?_
    refine zw_push zr_144_6 ?_
    refine zw_3 zr_144_8 rfl ?_
    refine zw_18 zr_144_9 (by omega) ?_
    refine zw_16 zr_144_10 (by omega) ?_
    refine zw_3 zr_144_11 rfl ?_
    refine zw_16 zr_144_12 (by omega) ?_
    refine zw_48 (c := 70) (len := 826) zr_144_13 rfl rfl (by omega) (by omega) ?_
    intro x3 ex3
    have bx3 := ib_70_m0 hI0 (k := (((90 + (6 * (f1 - 1))) + 0)).toNat) (by omega)
    rw [← ex3] at bx3
    clear ex3
    refine zw_R zr_144_14 (by decide) zm_144 (v := (0, x3)) rfl ?_
    rw [← hQ1]
    show zW E (d) 146 22 [(2, 69), (0, a0), (0, a1), (0, a2), (0, a3), (0, a4), (9, 0), (9, 0)] [(0, x3)] m0 Q
    refine zw_10 (L' := [(2, 69), (0, a0), (0, a1), (0, a2), (0, a3), (0, a4), (0, x3), (9, 0)]) zr_146_22 (Nat.le_of_ble_eq_true rfl) rfl ?_
    refine zw_3 zr_146_24 rfl ?_
    refine zw_36 zr_146_25 ?_
    refine zw_4 zr_146_26 rfl ?_
    refine zw_36 zr_146_28 ?_
    refine zw_push zr_146_29 ?_
    refine zw_C zr_146_32 (Or.inr rfl) zm_140 rfl rfl ⟨Nat.le_of_ble_eq_true rfl, Nat.le_of_ble_eq_true rfl, Nat.le_of_ble_eq_true rfl, rfl, by decide⟩ (by omega) (P := (fun v m' => zW E (d) 146 35 [(2, 69), (0, a0), (0, a1), (0, a2), (0, a3), (0, a4), (0, x3), (9, 0)] (if v.1 = 9 then [] else v :: []) m' Q)) ?_ (fun _ _ h => h)
    generalize hQ1 : (fun v m' => zW E (d) 146 35 [(2, 69), (0, a0), (0, a1), (0, a2), (0, a3), (0, a4), (0, x3), (9, 0)] (if v.1 = 9 then [] else v :: []) m' Q) = Q1
    show zW E (d - 1) 140 0 [(1, a0), (9, 0), (1, x3), (9, 0), (1, 99), (9, 0)] [] m0 Q1
    refine zw_5 zr_140_0 rfl ?_
    refine zw_5 zr_140_1 rfl ?_
    refine zw_39_0 zr_140_2 zr_140_3 ?_ ?_
    · intro h4
      refine zw_push zr_140_17 ?_
      refine zw_R zr_140_18 (by decide) zm_140 (v := (0, 0)) (zRetB (by omega)) ?_
      rw [← hQ1]
      show zW E (d) 146 35 [(2, 69), (0, a0), (0, a1), (0, a2), (0, a3), (0, a4), (0, x3), (9, 0)] [(0, 0)] m0 Q
      refine zw_40_1 zr_146_35 ?_ ?_
      · intro h5
        refine zw_push zr_146_72 ?_
        refine zw_R zr_146_74 (by decide) zm_146 (v := (0, (-2))) rfl ?_
        rw [← hQ]; exact ⟨_, rfl, by omega, by omega, hI0, hF0⟩
      · intro h6; omega
    · intro h7
      refine zw_5 zr_140_6 rfl ?_
      refine zw_6 zr_140_7 rfl ?_
      refine zw_39_2 zr_140_9 zr_140_10 ?_ ?_
      · intro h8
        refine zw_push zr_140_17 ?_
        refine zw_R zr_140_18 (by decide) zm_140 (v := (0, 0)) (zRetB (by omega)) ?_
        rw [← hQ1]
        show zW E (d) 146 35 [(2, 69), (0, a0), (0, a1), (0, a2), (0, a3), (0, a4), (0, x3), (9, 0)] [(0, 0)] m0 Q
        refine zw_40_1 zr_146_35 ?_ ?_
        · intro h9
          refine zw_push zr_146_72 ?_
          refine zw_R zr_146_74 (by decide) zm_146 (v := (0, (-2))) rfl ?_
          rw [← hQ]; exact ⟨_, rfl, by omega, by omega, hI0, hF0⟩
        · intro h10; omega
      · intro h11
        refine zw_push zr_140_13 ?_
        refine zw_42 zr_140_14 ?_
        refine zw_R zr_140_18 (by decide) zm_140 (v := (0, 1)) (zRetB (by omega)) ?_
        rw [← hQ1]
        show zW E (d) 146 35 [(2, 69), (0, a0), (0, a1), (0, a2), (0, a3), (0, a4), (0, x3), (9, 0)] [(0, 1)] m0 Q
        refine zw_40_1 zr_146_35 ?_ ?_
        · intro h12; omega
        · intro h13
          refine zw_7 zr_146_38 rfl ?_
          refine zw_3 zr_146_39 rfl ?_
          refine zw_C zr_146_40 (Or.inl rfl) zm_143 rfl rfl ⟨Nat.le_of_ble_eq_true rfl, Nat.le_of_ble_eq_true rfl, Nat.le_of_ble_eq_true rfl, rfl, by decide⟩ (by omega) (P := (fun v m' => zW E (d) 146 43 [(2, 69), (0, a0), (0, a1), (0, a2), (0, a3), (0, a4), (0, x3), (9, 0)] (if v.1 = 9 then [] else v :: []) m' Q)) ?_ (fun _ _ h => h)
          generalize hQ1 : (fun v m' => zW E (d) 146 43 [(2, 69), (0, a0), (0, a1), (0, a2), (0, a3), (0, a4), (0, x3), (9, 0)] (if v.1 = 9 then [] else v :: []) m' Q) = Q1
          show zW E (d - 1) 143 0 [(2, 69), (0, a1)] [] m0 Q1
          refine zw_3 zr_143_0 rfl ?_
          refine zw_36 zr_143_1 ?_
          refine zw_push zr_143_2 ?_
          refine zw_7 zr_143_3 rfl ?_
          refine zw_C zr_143_4 (Or.inl rfl) zm_141 rfl rfl ⟨Nat.le_of_ble_eq_true rfl, Nat.le_of_ble_eq_true rfl, Nat.le_of_ble_eq_true rfl, rfl, by decide⟩ (by omega) (P := (fun v m' => zW E (d - 1) 143 7 [(2, 69), (0, a1)] (if v.1 = 9 then [(1, 0), (1, a1)] else v :: [(1, 0), (1, a1)]) m' Q1)) ?_ (fun _ _ h => h)
          generalize hQ2 : (fun v m' => zW E (d - 1) 143 7 [(2, 69), (0, a1)] (if v.1 = 9 then [(1, 0), (1, a1)] else v :: [(1, 0), (1, a1)]) m' Q1) = Q2
          show zW E (d - 1 - 1) 141 0 [(2, 69)] [] m0 Q2
          refine zw_7 zr_141_0 rfl ?_
          refine zw_46r (s := 70) zr_141_1 rfl rfl rfl rfl ?_
          refine zw_push zr_141_4 ?_
          obtain ⟨f14, ef14⟩ : ∃ v, m0 70 822 = v := ⟨_, rfl⟩
          have bf14 : 0 ≤ m0 70 822 ∧ m0 70 822 ≤ 10 := ib_70_players hI0 (by omega)
          rw [ef14] at bf14
          refine zw_48k (c := 70) (len := 826) zr_141_7 rfl rfl (by omega) (by omega) (show (822 : Int).toNat = 822 by omega) ef14 ?_
          refine zw_R zr_141_8 (by decide) zm_141 (v := (0, f14)) rfl ?_
          rw [← hQ2]
          show zW E (d - 1) 143 7 [(2, 69), (0, a1)] [(0, f14), (1, 0), (1, a1)] m0 Q1
          refine zw_push zr_143_7 ?_
          refine zw_17 zr_143_8 (by omega) ?_
          refine zw_36 zr_143_9 ?_
          refine zw_C zr_143_10 (Or.inr rfl) zm_140 rfl rfl ⟨Nat.le_of_ble_eq_true rfl, Nat.le_of_ble_eq_true rfl, Nat.le_of_ble_eq_true rfl, rfl, by decide⟩ (by omega) (P := (fun v m' => zW E (d - 1) 143 13 [(2, 69), (0, a1)] (if v.1 = 9 then [] else v :: []) m' Q1)) ?_ (fun _ _ h => h)
          generalize hQ2 : (fun v m' => zW E (d - 1) 143 13 [(2, 69), (0, a1)] (if v.1 = 9 then [] else v :: []) m' Q1) = Q2
          show zW E (d - 1 - 1) 140 0 [(1, a1), (9, 0), (1, 0), (9, 0), (1, (f14 - 1)), (9, 0)] [] m0 Q2
          refine zw_5 zr_140_0 rfl ?_
          refine zw_5 zr_140_1 rfl ?_
          refine zw_39_0 zr_140_2 zr_140_3 ?_ ?_
          · intro h15
            refine zw_push zr_140_17 ?_
            refine zw_R zr_140_18 (by decide) zm_140 (v := (0, 0)) (zRetB (by omega)) ?_
            rw [← hQ2]
            show zW E (d - 1) 143 13 [(2, 69), (0, a1)] [(0, 0)] m0 Q1
            refine zw_R zr_143_13 (by decide) zm_143 (v := (0, 0)) (zRetB (by omega)) ?_
            rw [← hQ1]
            show zW E (d) 146 43 [(2, 69), (0, a0), (0, a1), (0, a2), (0, a3), (0, a4), (0, x3), (9, 0)] [(0, 0)] m0 Q
            refine zw_40_1 zr_146_43 ?_ ?_
            · intro h16
              refine zw_push zr_146_72 ?_
              refine zw_R zr_146_74 (by decide) zm_146 (v := (0, (-2))) rfl ?_
              rw [← hQ]; exact ⟨_, rfl, by omega, by omega, hI0, hF0⟩
            · intro h17; omega
          · intro h18
            refine zw_5 zr_140_6 rfl ?_
            refine zw_6 zr_140_7 rfl ?_
            refine zw_39_2 zr_140_9 zr_140_10 ?_ ?_
            · intro h19
              refine zw_push zr_140_17 ?_
              refine zw_R zr_140_18 (by decide) zm_140 (v := (0, 0)) (zRetB (by omega)) ?_
              rw [← hQ2]
              show zW E (d - 1) 143 13 [(2, 69), (0, a1)] [(0, 0)] m0 Q1
              refine zw_R zr_143_13 (by decide) zm_143 (v := (0, 0)) (zRetB (by omega)) ?_
              rw [← hQ1]
              show zW E (d) 146 43 [(2, 69), (0, a0), (0, a1), (0, a2), (0, a3), (0, a4), (0, x3), (9, 0)] [(0, 0)] m0 Q
              refine zw_40_1 zr_146_43 ?_ ?_
              · intro h20
                refine zw_push zr_146_72 ?_
                refine zw_R zr_146_74 (by decide) zm_146 (v := (0, (-2))) rfl ?_
                rw [← hQ]; exact ⟨_, rfl, by omega, by omega, hI0, hF0⟩
              · intro h21; omega
            · intro h22
              refine zw_push zr_140_13 ?_
              refine zw_42 zr_140_14 ?_
              refine zw_R zr_140_18 (by decide) zm_140 (v := (0, 1)) (zRetB (by omega)) ?_
              rw [← hQ2]
              show zW E (d - 1) 143 13 [(2, 69), (0, a1)] [(0, 1)] m0 Q1
              refine zw_R zr_143_13 (by decide) zm_143 (v := (0, 1)) (zRetB (by omega)) ?_
              rw [← hQ1]
              show zW E (d) 146 43 [(2, 69), (0, a0), (0, a1), (0, a2), (0, a3), (0, a4), (0, x3), (9, 0)] [(0, 1)] m0 Q
              refine zw_40_1 zr_146_43 ?_ ?_
              · intro h23; omega
              · intro h24
                refine zw_7 zr_146_46 rfl ?_
                refine zw_3 zr_146_47 rfl ?_
                refine zw_C zr_146_48 (Or.inl rfl) zm_143 rfl rfl ⟨Nat.le_of_ble_eq_true rfl, Nat.le_of_ble_eq_true rfl, Nat.le_of_ble_eq_true rfl, rfl, by decide⟩ (by omega) (P := (fun v m' => zW E (d) 146 51 [(2, 69), (0, a0), (0, a1), (0, a2), (0, a3), (0, a4), (0, x3), (9, 0)] (if v.1 = 9 then [] else v :: []) m' Q)) ?_ (fun _ _ h => h)
                generalize hQ1 : (fun v m' => zW E (d) 146 51 [(2, 69), (0, a0), (0, a1), (0, a2), (0, a3), (0, a4), (0, x3), (9, 0)] (if v.1 = 9 then [] else v :: []) m' Q) = Q1
                show zW E (d - 1) 143 0 [(2, 69), (0, a2)] [] m0 Q1
                refine zw_3 zr_143_0 rfl ?_
                refine zw_36 zr_143_1 ?_
                refine zw_push zr_143_2 ?_
                refine zw_7 zr_143_3 rfl ?_
                refine zw_C zr_143_4 (Or.inl rfl) zm_141 rfl rfl ⟨Nat.le_of_ble_eq_true rfl, Nat.le_of_ble_eq_true rfl, Nat.le_of_ble_eq_true rfl, rfl, by decide⟩ (by omega) (P := (fun v m' => zW E (d - 1) 143 7 [(2, 69), (0, a2)] (if v.1 = 9 then [(1, 0), (1, a2)] else v :: [(1, 0), (1, a2)]) m' Q1)) ?_ (fun _ _ h => h)
                generalize hQ2 : (fun v m' => zW E (d - 1) 143 7 [(2, 69), (0, a2)] (if v.1 = 9 then [(1, 0), (1, a2)] else v :: [(1, 0), (1, a2)]) m' Q1) = Q2
                show zW E (d - 1 - 1) 141 0 [(2, 69)] [] m0 Q2
                refine zw_7 zr_141_0 rfl ?_
                refine zw_46r (s := 70) zr_141_1 rfl rfl rfl rfl ?_
                refine zw_push zr_141_4 ?_
                refine zw_48k (c := 70) (len := 826) zr_141_7 rfl rfl (by omega) (by omega) (show (822 : Int).toNat = 822 by omega) ef14 ?_
                refine zw_R zr_141_8 (by decide) zm_141 (v := (0, f14)) rfl ?_
                rw [← hQ2]
                show zW E (d - 1) 143 7 [(2, 69), (0, a2)] [(0, f14), (1, 0), (1, a2)] m0 Q1
                refine zw_push zr_143_7 ?_
                refine zw_17 zr_143_8 (by omega) ?_
                refine zw_36 zr_143_9 ?_
                refine zw_C zr_143_10 (Or.inr rfl) zm_140 rfl rfl ⟨Nat.le_of_ble_eq_true rfl, Nat.le_of_ble_eq_true rfl, Nat.le_of_ble_eq_true rfl, rfl, by decide⟩ (by omega) (P := (fun v m' => zW E (d - 1) 143 13 [(2, 69), (0, a2)] (if v.1 = 9 then [] else v :: []) m' Q1)) ?_ (fun _ _ h => h)
                generalize hQ2 : (fun v m' => zW E (d - 1) 143 13 [(2, 69), (0, a2)] (if v.1 = 9 then [] else v :: []) m' Q1) = Q2
                show zW E (d - 1 - 1) 140 0 [(1, a2), (9, 0), (1, 0), (9, 0), (1, (f14 - 1)), (9, 0)] [] m0 Q2
                refine zw_5 zr_140_0 rfl ?_
                refine zw_5 zr_140_1 rfl ?_
                refine zw_39_0 zr_140_2 zr_140_3 ?_ ?_
                · intro h25
                  refine zw_push zr_140_17 ?_
                  refine zw_R zr_140_18 (by decide) zm_140 (v := (0, 0)) (zRetB (by omega)) ?_
                  rw [← hQ2]
                  show zW E (d - 1) 143 13 [(2, 69), (0, a2)] [(0, 0)] m0 Q1
                  refine zw_R zr_143_13 (by decide) zm_143 (v := (0, 0)) (zRetB (by omega)) ?_
                  rw [← hQ1]
                  show zW E (d) 146 51 [(2, 69), (0, a0), (0, a1), (0, a2), (0, a3), (0, a4), (0, x3), (9, 0)] [(0, 0)] m0 Q
                  refine zw_40_1 zr_146_51 ?_ ?_
                  · intro h26
                    refine zw_push zr_146_72 ?_
                    refine zw_R zr_146_74 (by decide) zm_146 (v := (0, (-2))) rfl ?_
                    rw [← hQ]; exact ⟨_, rfl, by omega, by omega, hI0, hF0⟩
                  · intro h27; omega
                · intro h28
                  refine zw_5 zr_140_6 rfl ?_
                  refine zw_6 zr_140_7 rfl ?_
                  refine zw_39_2 zr_140_9 zr_140_10 ?_ ?_
                  · intro h29
                    refine zw_push zr_140_17 ?_
                    refine zw_R zr_140_18 (by decide) zm_140 (v := (0, 0)) (zRetB (by omega)) ?_
                    rw [← hQ2]
                    show zW E (d - 1) 143 13 [(2, 69), (0, a2)] [(0, 0)] m0 Q1
                    refine zw_R zr_143_13 (by decide) zm_143 (v := (0, 0)) (zRetB (by omega)) ?_
                    rw [← hQ1]
                    show zW E (d) 146 51 [(2, 69), (0, a0), (0, a1), (0, a2), (0, a3), (0, a4), (0, x3), (9, 0)] [(0, 0)] m0 Q
                    refine zw_40_1 zr_146_51 ?_ ?_
                    · intro h30
                      refine zw_push zr_146_72 ?_
                      refine zw_R zr_146_74 (by decide) zm_146 (v := (0, (-2))) rfl ?_
                      rw [← hQ]; exact ⟨_, rfl, by omega, by omega, hI0, hF0⟩
                    · intro h31; omega
                  · intro h32
                    refine zw_push zr_140_13 ?_
                    refine zw_42 zr_140_14 ?_
                    refine zw_R zr_140_18 (by decide) zm_140 (v := (0, 1)) (zRetB (by omega)) ?_
                    rw [← hQ2]
                    show zW E (d - 1) 143 13 [(2, 69), (0, a2)] [(0, 1)] m0 Q1
                    refine zw_R zr_143_13 (by decide) zm_143 (v := (0, 1)) (zRetB (by omega)) ?_
                    rw [← hQ1]
                    show zW E (d) 146 51 [(2, 69), (0, a0), (0, a1), (0, a2), (0, a3), (0, a4), (0, x3), (9, 0)] [(0, 1)] m0 Q
                    refine zw_40_1 zr_146_51 ?_ ?_
                    · intro h33; omega
                    · intro h34
                      refine zw_3 zr_146_54 rfl ?_
                      refine zw_3 zr_146_55 rfl ?_
                      refine zw_41_1 zr_146_56 ?_ ?_
                      · intro h35
                        refine zw_push zr_146_72 ?_
                        refine zw_R zr_146_74 (by decide) zm_146 (v := (0, (-2))) rfl ?_
                        rw [← hQ]; exact ⟨_, rfl, by omega, by omega, hI0, hF0⟩
                      · intro h36
                        refine zw_4 zr_146_59 rfl ?_
                        refine zw_36 zr_146_61 ?_
                        refine zw_push zr_146_62 ?_
                        refine zw_push zr_146_63 ?_
                        refine zw_C zr_146_66 (Or.inr rfl) zm_140 rfl rfl ⟨Nat.le_of_ble_eq_true rfl, Nat.le_of_ble_eq_true rfl, Nat.le_of_ble_eq_true rfl, rfl, by decide⟩ (by omega) (P := (fun v m' => zW E (d) 146 69 [(2, 69), (0, a0), (0, a1), (0, a2), (0, a3), (0, a4), (0, x3), (9, 0)] (if v.1 = 9 then [] else v :: []) m' Q)) ?_ (fun _ _ h => h)
                        generalize hQ1 : (fun v m' => zW E (d) 146 69 [(2, 69), (0, a0), (0, a1), (0, a2), (0, a3), (0, a4), (0, x3), (9, 0)] (if v.1 = 9 then [] else v :: []) m' Q) = Q1
                        show zW E (d - 1) 140 0 [(1, a3), (9, 0), (1, 0), (9, 0), (1, 2), (9, 0)] [] m0 Q1
                        refine zw_5 zr_140_0 rfl ?_
                        refine zw_5 zr_140_1 rfl ?_
                        refine zw_39_0 zr_140_2 zr_140_3 ?_ ?_
                        · intro h37
                          refine zw_push zr_140_17 ?_
                          refine zw_R zr_140_18 (by decide) zm_140 (v := (0, 0)) (zRetB (by omega)) ?_
                          rw [← hQ1]
                          show zW E (d) 146 69 [(2, 69), (0, a0), (0, a1), (0, a2), (0, a3), (0, a4), (0, x3), (9, 0)] [(0, 0)] m0 Q
                          refine zw_40_4 zr_146_69 ?_ ?_
                          · intro h38; omega
                          · intro h39
                            refine zw_push zr_146_72 ?_
                            refine zw_R zr_146_74 (by decide) zm_146 (v := (0, (-2))) rfl ?_
                            rw [← hQ]; exact ⟨_, rfl, by omega, by omega, hI0, hF0⟩
                        · intro h40
                          refine zw_5 zr_140_6 rfl ?_
                          refine zw_6 zr_140_7 rfl ?_
                          refine zw_39_2 zr_140_9 zr_140_10 ?_ ?_
                          · intro h41
                            refine zw_push zr_140_17 ?_
                            refine zw_R zr_140_18 (by decide) zm_140 (v := (0, 0)) (zRetB (by omega)) ?_
                            rw [← hQ1]
                            show zW E (d) 146 69 [(2, 69), (0, a0), (0, a1), (0, a2), (0, a3), (0, a4), (0, x3), (9, 0)] [(0, 0)] m0 Q
                            refine zw_40_4 zr_146_69 ?_ ?_
                            · intro h42; omega
                            · intro h43
                              refine zw_push zr_146_72 ?_
                              refine zw_R zr_146_74 (by decide) zm_146 (v := (0, (-2))) rfl ?_
                              rw [← hQ]; exact ⟨_, rfl, by omega, by omega, hI0, hF0⟩
                          · intro h44
                            refine zw_push zr_140_13 ?_
                            refine zw_42 zr_140_14 ?_
                            refine zw_R zr_140_18 (by decide) zm_140 (v := (0, 1)) (zRetB (by omega)) ?_
                            rw [← hQ1]
                            show zW E (d) 146 69 [(2, 69), (0, a0), (0, a1), (0, a2), (0, a3), (0, a4), (0, x3), (9, 0)] [(0, 1)] m0 Q
                            refine zw_40_4 zr_146_69 ?_ ?_
                            · intro h45
                              refine zw_7 zr_146_75 rfl ?_
                              refine zw_C zr_146_76 (Or.inl rfl) zm_142 rfl rfl ⟨Nat.le_of_ble_eq_true rfl, Nat.le_of_ble_eq_true rfl, Nat.le_of_ble_eq_true rfl, rfl, by decide⟩ (by omega) (P := (fun v m' => zW E (d) 146 79 [(2, 69), (0, a0), (0, a1), (0, a2), (0, a3), (0, a4), (0, x3), (9, 0)] (if v.1 = 9 then [] else v :: []) m' Q)) ?_ (fun _ _ h => h)
                              generalize hQ1 : (fun v m' => zW E (d) 146 79 [(2, 69), (0, a0), (0, a1), (0, a2), (0, a3), (0, a4), (0, x3), (9, 0)] (if v.1 = 9 then [] else v :: []) m' Q) = Q1
                              show zW E (d - 1) 142 0 [(2, 69)] [] m0 Q1
                              refine zw_7 zr_142_0 rfl ?_
                              refine zw_46r (s := 70) zr_142_1 rfl rfl rfl rfl ?_
                              refine zw_push zr_142_4 ?_
                              refine zw_48k (c := 70) (len := 826) zr_142_7 rfl rfl (by omega) (by omega) (show (823 : Int).toNat = 823 by omega) ef1 ?_
                              refine zw_R zr_142_8 (by decide) zm_142 (v := (0, f1)) rfl ?_
                              rw [← hQ1]
                              show zW E (d) 146 79 [(2, 69), (0, a0), (0, a1), (0, a2), (0, a3), (0, a4), (0, x3), (9, 0)] [(0, f1)] m0 Q
                              refine zw_push zr_146_79 ?_
                              refine zw_41_4 zr_146_81 ?_ ?_
                              · intro h46
                                refine zw_push zr_146_87 ?_
                                refine zw_push zr_146_89 ?_
                                refine zw_7 zr_146_91 rfl ?_
                                refine zw_C zr_146_92 (Or.inl rfl) zm_142 rfl rfl ⟨Nat.le_of_ble_eq_true rfl, Nat.le_of_ble_eq_true rfl, Nat.le_of_ble_eq_true rfl, rfl, by decide⟩ (by omega) (P := (fun v m' => zW E (d) 146 95 [(2, 69), (0, a0), (0, a1), (0, a2), (0, a3), (0, a4), (0, x3), (9, 0)] (if v.1 = 9 then [(0, 6), (0, 90)] else v :: [(0, 6), (0, 90)]) m' Q)) ?_ (fun _ _ h => h)
                                generalize hQ1 : (fun v m' => zW E (d) 146 95 [(2, 69), (0, a0), (0, a1), (0, a2), (0, a3), (0, a4), (0, x3), (9, 0)] (if v.1 = 9 then [(0, 6), (0, 90)] else v :: [(0, 6), (0, 90)]) m' Q) = Q1
                                show zW E (d - 1) 142 0 [(2, 69)] [] m0 Q1
                                refine zw_7 zr_142_0 rfl ?_
                                refine zw_46r (s := 70) zr_142_1 rfl rfl rfl rfl ?_
                                refine zw_push zr_142_4 ?_
                                refine zw_48k (c := 70) (len := 826) zr_142_7 rfl rfl (by omega) (by omega) (show (823 : Int).toNat = 823 by omega) ef1 ?_
                                refine zw_R zr_142_8 (by decide) zm_142 (v := (0, f1)) rfl ?_
                                rw [← hQ1]
                                show zW E (d) 146 95 [(2, 69), (0, a0), (0, a1), (0, a2), (0, a3), (0, a4), (0, x3), (9, 0)] [(0, f1), (0, 6), (0, 90)] m0 Q
                                refine zw_18 zr_146_95 (by omega) ?_
                                refine zw_16 zr_146_96 (by omega) ?_
                                refine zw_10 (L' := [(2, 69), (0, a0), (0, a1), (0, a2), (0, a3), (0, a4), (0, x3), (0, (90 + (6 * f1)))]) zr_146_97 (Nat.le_of_ble_eq_true rfl) rfl ?_
                                refine zw_7 zr_146_99 rfl ?_
                                refine zw_46r (s := 70) zr_146_100 rfl rfl rfl rfl ?_
                                refine zw_4 zr_146_103 rfl ?_
                                refine zw_push zr_146_105 ?_
                                refine zw_16 zr_146_106 (by omega) ?_
                                refine zw_3 zr_146_107 rfl ?_
                                refine zw_49 (c := 70) (len := 826) zr_146_108 rfl rfl (by omega) (by omega) ?_
                                intro m47 em47
                                have hIm47 : zInv m47 := by rw [em47]; exact iu_70_m0 hI0 (by omega) (by omega)
                                have hFm47 : zFr W_146 m0 m47 := by rw [em47]; exact hF0.any rfl
                                have km47_70_823 : m47 70 823 = f1 := by rw [em47, zUp_ne (by omega)]; exact ef1
                                have km47_70_822 : m47 70 822 = f14 := by rw [em47, zUp_ne (by omega)]; exact ef14
                                clear em47
                                refine zw_7 zr_146_109 rfl ?_
                                refine zw_46r (s := 70) zr_146_110 rfl rfl rfl rfl ?_
                                refine zw_4 zr_146_113 rfl ?_
                                refine zw_push zr_146_115 ?_
                                refine zw_16 zr_146_116 (by omega) ?_
                                refine zw_3 zr_146_117 rfl ?_
                                refine zw_49 (c := 70) (len := 826) zr_146_118 rfl rfl (by omega) (by omega) ?_
                                intro m48 em48
                                have hIm48 : zInv m48 := by rw [em48]; exact iu_70_m1 hIm47 (by omega) (by omega)
                                have hFm48 : zFr W_146 m0 m48 := by rw [em48]; exact hFm47.any rfl
                                have km48_70_823 : m48 70 823 = f1 := by rw [em48, zUp_ne (by omega)]; exact km47_70_823
                                have km48_70_822 : m48 70 822 = f14 := by rw [em48, zUp_ne (by omega)]; exact km47_70_822
                                clear em48
                                refine zw_7 zr_146_119 rfl ?_
                                refine zw_46r (s := 70) zr_146_120 rfl rfl rfl rfl ?_
                                refine zw_4 zr_146_123 rfl ?_
                                refine zw_push zr_146_125 ?_
                                refine zw_16 zr_146_126 (by omega) ?_
                                refine zw_3 zr_146_127 rfl ?_
                                refine zw_49 (c := 70) (len := 826) zr_146_128 rfl rfl (by omega) (by omega) ?_
                                intro m49 em49
                                have hIm49 : zInv m49 := by rw [em49]; exact iu_70_m2 hIm48 (by omega) (by omega)
                                have hFm49 : zFr W_146 m0 m49 := by rw [em49]; exact hFm48.any rfl
                                have km49_70_823 : m49 70 823 = f1 := by rw [em49, zUp_ne (by omega)]; exact km48_70_823
                                have km49_70_822 : m49 70 822 = f14 := by rw [em49, zUp_ne (by omega)]; exact km48_70_822
                                clear em49
                                refine zw_7 zr_146_129 rfl ?_
                                refine zw_46r (s := 70) zr_146_130 rfl rfl rfl rfl ?_
                                refine zw_4 zr_146_133 rfl ?_
                                refine zw_push zr_146_135 ?_
                                refine zw_16 zr_146_136 (by omega) ?_
                                refine zw_4 zr_146_137 rfl ?_
                                refine zw_49 (c := 70) (len := 826) zr_146_139 rfl rfl (by omega) (by omega) ?_
                                intro m50 em50
                                have hIm50 : zInv m50 := by rw [em50]; exact iu_70_m3 hIm49 (by omega) (by omega)
                                have hFm50 : zFr W_146 m0 m50 := by rw [em50]; exact hFm49.any rfl
                                have km50_70_823 : m50 70 823 = f1 := by rw [em50, zUp_ne (by omega)]; exact km49_70_823
                                have km50_70_822 : m50 70 822 = f14 := by rw [em50, zUp_ne (by omega)]; exact km49_70_822
                                clear em50
                                refine zw_7 zr_146_140 rfl ?_
                                refine zw_46r (s := 70) zr_146_141 rfl rfl rfl rfl ?_
                                refine zw_4 zr_146_144 rfl ?_
                                refine zw_push zr_146_146 ?_
                                refine zw_16 zr_146_147 (by omega) ?_
                                refine zw_4 zr_146_148 rfl ?_
                                refine zw_40_1 zr_146_150 ?_ ?_
                                · intro h51
                                  refine zw_push zr_146_157 ?_
                                  refine zw_49 (c := 70) (len := 826) zr_146_158 rfl rfl (by omega) (by omega) ?_
                                  intro m52 em52
                                  have hIm52 : zInv m52 := by rw [em52]; exact iu_70_m4 hIm50 (by omega) (by omega)
                                  have hFm52 : zFr W_146 m0 m52 := by rw [em52]; exact hFm50.any rfl
                                  have km52_70_823 : m52 70 823 = f1 := by rw [em52, zUp_ne (by omega)]; exact km50_70_823
                                  have km52_70_822 : m52 70 822 = f14 := by rw [em52, zUp_ne (by omega)]; exact km50_70_822
                                  clear em52
                                  refine zw_7 zr_146_159 rfl ?_
                                  refine zw_46r (s := 70) zr_146_160 rfl rfl rfl rfl ?_
                                  refine zw_4 zr_146_163 rfl ?_
                                  refine zw_push zr_146_165 ?_
                                  refine zw_16 zr_146_166 (by omega) ?_
                                  refine zw_push zr_146_167 ?_
                                  refine zw_49 (c := 70) (len := 826) zr_146_168 rfl rfl (by omega) (by omega) ?_
                                  intro m53 em53
                                  have hIm53 : zInv m53 := by rw [em53]; exact iu_70_m5 hIm52 (by omega) (by omega)
                                  have hFm53 : zFr W_146 m0 m53 := by rw [em53]; exact hFm52.any rfl
                                  have km53_70_823 : m53 70 823 = f1 := by rw [em53, zUp_ne (by omega)]; exact km52_70_823
                                  have km53_70_822 : m53 70 822 = f14 := by rw [em53, zUp_ne (by omega)]; exact km52_70_822
                                  clear em53
                                  refine zw_7 zr_146_169 rfl ?_
                                  refine zw_46r (s := 70) zr_146_170 rfl rfl rfl rfl ?_
                                  refine zw_push zr_146_173 ?_
                                  refine zw_45 zr_146_176 ⟨rfl, rfl⟩ ?_
                                  refine zw_48k (c := 70) (len := 826) zr_146_177 rfl rfl (by omega) (by omega) (show (823 : Int).toNat = 823 by omega) km53_70_823 ?_
                                  refine zw_push zr_146_178 ?_
                                  refine zw_16 zr_146_179 (by omega) ?_
                                  refine zw_49 (c := 70) (len := 826) zr_146_180 rfl rfl (by omega) (by omega) ?_
                                  intro m54 em54
                                  have hIm54 : zInv m54 := by rw [em54]; exact iu_70_meetings hIm53 (by omega) (by omega)
                                  have hFm54 : zFr W_146 m0 m54 := by rw [em54]; exact hFm53.any rfl
                                  have km54_70_822 : m54 70 822 = f14 := by rw [em54, zUp_ne (by omega)]; exact km53_70_822
                                  have km54_70_823 : m54 70 823 = (f1 + 1) := by rw [em54, show (823 : Int).toNat = 823 by omega]; exact zUp_eq _ _ _ _
                                  clear em54
                                  refine zw_7 zr_146_181 rfl ?_
                                  refine zw_C zr_146_182 (Or.inl rfl) zm_142 rfl rfl ⟨Nat.le_of_ble_eq_true rfl, Nat.le_of_ble_eq_true rfl, Nat.le_of_ble_eq_true rfl, rfl, by decide⟩ (by omega) (P := (fun v m' => zW E (d) 146 185 [(2, 69), (0, a0), (0, a1), (0, a2), (0, a3), (0, a4), (0, x3), (0, (90 + (6 * f1)))] (if v.1 = 9 then [] else v :: []) m' Q)) ?_ (fun _ _ h => h)
                                  generalize hQ1 : (fun v m' => zW E (d) 146 185 [(2, 69), (0, a0), (0, a1), (0, a2), (0, a3), (0, a4), (0, x3), (0, (90 + (6 * f1)))] (if v.1 = 9 then [] else v :: []) m' Q) = Q1
                                  show zW E (d - 1) 142 0 [(2, 69)] [] m54 Q1
                                  refine zw_7 zr_142_0 rfl ?_
                                  refine zw_46r (s := 70) zr_142_1 rfl rfl rfl rfl ?_
                                  refine zw_push zr_142_4 ?_
                                  refine zw_48k (c := 70) (len := 826) zr_142_7 rfl rfl (by omega) (by omega) (show (823 : Int).toNat = 823 by omega) km54_70_823 ?_
                                  refine zw_R zr_142_8 (by decide) zm_142 (v := (0, (f1 + 1))) rfl ?_
                                  rw [← hQ1]
                                  show zW E (d) 146 185 [(2, 69), (0, a0), (0, a1), (0, a2), (0, a3), (0, a4), (0, x3), (0, (90 + (6 * f1)))] [(0, (f1 + 1))] m54 Q
                                  refine zw_push zr_146_185 ?_
                                  refine zw_17 zr_146_186 (by omega) ?_
                                  refine zw_R zr_146_187 (by decide) zm_146 (v := (0, ((f1 + 1) - 1))) rfl ?_
                                  rw [← hQ]; exact ⟨_, rfl, by omega, by omega, hIm54, hFm54⟩
                                · intro h55
                                  refine zw_push zr_146_153 ?_
                                  refine zw_42 zr_146_154 ?_
                                  refine zw_49 (c := 70) (len := 826) zr_146_158 rfl rfl (by omega) (by omega) ?_
                                  intro m56 em56
                                  have hIm56 : zInv m56 := by rw [em56]; exact iu_70_m4 hIm50 (by omega) (by omega)
                                  have hFm56 : zFr W_146 m0 m56 := by rw [em56]; exact hFm50.any rfl
                                  have km56_70_823 : m56 70 823 = f1 := by rw [em56, zUp_ne (by omega)]; exact km50_70_823
                                  have km56_70_822 : m56 70 822 = f14 := by rw [em56, zUp_ne (by omega)]; exact km50_70_822
                                  clear em56
                                  refine zw_7 zr_146_159 rfl ?_
                                  refine zw_46r (s := 70) zr_146_160 rfl rfl rfl rfl ?_
                                  refine zw_4 zr_146_163 rfl ?_
                                  refine zw_push zr_146_165 ?_
                                  refine zw_16 zr_146_166 (by omega) ?_
                                  refine zw_push zr_146_167 ?_
                                  refine zw_49 (c := 70) (len := 826) zr_146_168 rfl rfl (by omega) (by omega) ?_
                                  intro m57 em57
                                  have hIm57 : zInv m57 := by rw [em57]; exact iu_70_m5 hIm56 (by omega) (by omega)
                                  have hFm57 : zFr W_146 m0 m57 := by rw [em57]; exact hFm56.any rfl
                                  have km57_70_823 : m57 70 823 = f1 := by rw [em57, zUp_ne (by omega)]; exact km56_70_823
                                  have km57_70_822 : m57 70 822 = f14 := by rw [em57, zUp_ne (by omega)]; exact km56_70_822
                                  clear em57
                                  refine zw_7 zr_146_169 rfl ?_
                                  refine zw_46r (s := 70) zr_146_170 rfl rfl rfl rfl ?_
                                  refine zw_push zr_146_173 ?_
                                  refine zw_45 zr_146_176 ⟨rfl, rfl⟩ ?_
                                  refine zw_48k (c := 70) (len := 826) zr_146_177 rfl rfl (by omega) (by omega) (show (823 : Int).toNat = 823 by omega) km57_70_823 ?_
                                  refine zw_push zr_146_178 ?_
                                  refine zw_16 zr_146_179 (by omega) ?_
                                  refine zw_49 (c := 70) (len := 826) zr_146_180 rfl rfl (by omega) (by omega) ?_
                                  intro m58 em58
                                  have hIm58 : zInv m58 := by rw [em58]; exact iu_70_meetings hIm57 (by omega) (by omega)
                                  have hFm58 : zFr W_146 m0 m58 := by rw [em58]; exact hFm57.any rfl
                                  have km58_70_822 : m58 70 822 = f14 := by rw [em58, zUp_ne (by omega)]; exact km57_70_822
                                  have km58_70_823 : m58 70 823 = (f1 + 1) := by rw [em58, show (823 : Int).toNat = 823 by omega]; exact zUp_eq _ _ _ _
                                  clear em58
                                  refine zw_7 zr_146_181 rfl ?_
                                  refine zw_C zr_146_182 (Or.inl rfl) zm_142 rfl rfl ⟨Nat.le_of_ble_eq_true rfl, Nat.le_of_ble_eq_true rfl, Nat.le_of_ble_eq_true rfl, rfl, by decide⟩ (by omega) (P := (fun v m' => zW E (d) 146 185 [(2, 69), (0, a0), (0, a1), (0, a2), (0, a3), (0, a4), (0, x3), (0, (90 + (6 * f1)))] (if v.1 = 9 then [] else v :: []) m' Q)) ?_ (fun _ _ h => h)
                                  generalize hQ1 : (fun v m' => zW E (d) 146 185 [(2, 69), (0, a0), (0, a1), (0, a2), (0, a3), (0, a4), (0, x3), (0, (90 + (6 * f1)))] (if v.1 = 9 then [] else v :: []) m' Q) = Q1
                                  show zW E (d - 1) 142 0 [(2, 69)] [] m58 Q1
                                  refine zw_7 zr_142_0 rfl ?_
                                  refine zw_46r (s := 70) zr_142_1 rfl rfl rfl rfl ?_
                                  refine zw_push zr_142_4 ?_
                                  refine zw_48k (c := 70) (len := 826) zr_142_7 rfl rfl (by omega) (by omega) (show (823 : Int).toNat = 823 by omega) km58_70_823 ?_
                                  refine zw_R zr_142_8 (by decide) zm_142 (v := (0, (f1 + 1))) rfl ?_
                                  rw [← hQ1]
                                  show zW E (d) 146 185 [(2, 69), (0, a0), (0, a1), (0, a2), (0, a3), (0, a4), (0, x3), (0, (90 + (6 * f1)))] [(0, (f1 + 1))] m58 Q
                                  refine zw_push zr_146_185 ?_
                                  refine zw_17 zr_146_186 (by omega) ?_
                                  refine zw_R zr_146_187 (by decide) zm_146 (v := (0, ((f1 + 1) - 1))) rfl ?_
                                  rw [← hQ]; exact ⟨_, rfl, by omega, by omega, hIm58, hFm58⟩
                              · intro h59
                                refine zw_push zr_146_84 ?_
                                refine zw_R zr_146_86 (by decide) zm_146 (v := (0, (-4))) rfl ?_
                                rw [← hQ]; exact ⟨_, rfl, by omega, by omega, hI0, hF0⟩
                            · intro h60; omega
  · intro h61
    refine zw_push zr_146_7 ?_
    refine zw_42 zr_146_8 ?_
    refine zw_10 (L' := [(2, 69), (0, a0), (0, a1), (0, a2), (0, a3), (0, a4), (0, 0), (9, 0)]) zr_146_22 (Nat.le_of_ble_eq_true rfl) rfl ?_
    refine zw_3 zr_146_24 rfl ?_
    refine zw_36 zr_146_25 ?_
    refine zw_4 zr_146_26 rfl ?_
    refine zw_36 zr_146_28 ?_
    refine zw_push zr_146_29 ?_
    refine zw_C zr_146_32 (Or.inr rfl) zm_140 rfl rfl ⟨Nat.le_of_ble_eq_true rfl, Nat.le_of_ble_eq_true rfl, Nat.le_of_ble_eq_true rfl, rfl, by decide⟩ (by omega) (P := (fun v m' => zW E (d) 146 35 [(2, 69), (0, a0), (0, a1), (0, a2), (0, a3), (0, a4), (0, 0), (9, 0)] (if v.1 = 9 then [] else v :: []) m' Q)) ?_ (fun _ _ h => h)
    generalize hQ1 : (fun v m' => zW E (d) 146 35 [(2, 69), (0, a0), (0, a1), (0, a2), (0, a3), (0, a4), (0, 0), (9, 0)] (if v.1 = 9 then [] else v :: []) m' Q) = Q1
    show zW E (d - 1) 140 0 [(1, a0), (9, 0), (1, 0), (9, 0), (1, 99), (9, 0)] [] m0 Q1
    refine zw_5 zr_140_0 rfl ?_
    refine zw_5 zr_140_1 rfl ?_
    refine zw_39_0 zr_140_2 zr_140_3 ?_ ?_
    · intro h62
      refine zw_push zr_140_17 ?_
      refine zw_R zr_140_18 (by decide) zm_140 (v := (0, 0)) (zRetB (by omega)) ?_
      rw [← hQ1]
      show zW E (d) 146 35 [(2, 69), (0, a0), (0, a1), (0, a2), (0, a3), (0, a4), (0, 0), (9, 0)] [(0, 0)] m0 Q
      refine zw_40_1 zr_146_35 ?_ ?_
      · intro h63
        refine zw_push zr_146_72 ?_
        refine zw_R zr_146_74 (by decide) zm_146 (v := (0, (-2))) rfl ?_
        rw [← hQ]; exact ⟨_, rfl, by omega, by omega, hI0, hF0⟩
      · intro h64; omega
    · intro h65
      refine zw_5 zr_140_6 rfl ?_
      refine zw_6 zr_140_7 rfl ?_
      refine zw_39_2 zr_140_9 zr_140_10 ?_ ?_
      · intro h66
        refine zw_push zr_140_17 ?_
        refine zw_R zr_140_18 (by decide) zm_140 (v := (0, 0)) (zRetB (by omega)) ?_
        rw [← hQ1]
        show zW E (d) 146 35 [(2, 69), (0, a0), (0, a1), (0, a2), (0, a3), (0, a4), (0, 0), (9, 0)] [(0, 0)] m0 Q
        refine zw_40_1 zr_146_35 ?_ ?_
        · intro h67
          refine zw_push zr_146_72 ?_
          refine zw_R zr_146_74 (by decide) zm_146 (v := (0, (-2))) rfl ?_
          rw [← hQ]; exact ⟨_, rfl, by omega, by omega, hI0, hF0⟩
        · intro h68; omega
      · intro h69
        refine zw_push zr_140_13 ?_
        refine zw_42 zr_140_14 ?_
        refine zw_R zr_140_18 (by decide) zm_140 (v := (0, 1)) (zRetB (by omega)) ?_
        rw [← hQ1]
        show zW E (d) 146 35 [(2, 69), (0, a0), (0, a1), (0, a2), (0, a3), (0, a4), (0, 0), (9, 0)] [(0, 1)] m0 Q
        refine zw_40_1 zr_146_35 ?_ ?_
        · intro h70; omega
        · intro h71
          refine zw_7 zr_146_38 rfl ?_
          refine zw_3 zr_146_39 rfl ?_
          refine zw_C zr_146_40 (Or.inl rfl) zm_143 rfl rfl ⟨Nat.le_of_ble_eq_true rfl, Nat.le_of_ble_eq_true rfl, Nat.le_of_ble_eq_true rfl, rfl, by decide⟩ (by omega) (P := (fun v m' => zW E (d) 146 43 [(2, 69), (0, a0), (0, a1), (0, a2), (0, a3), (0, a4), (0, 0), (9, 0)] (if v.1 = 9 then [] else v :: []) m' Q)) ?_ (fun _ _ h => h)
          generalize hQ1 : (fun v m' => zW E (d) 146 43 [(2, 69), (0, a0), (0, a1), (0, a2), (0, a3), (0, a4), (0, 0), (9, 0)] (if v.1 = 9 then [] else v :: []) m' Q) = Q1
          show zW E (d - 1) 143 0 [(2, 69), (0, a1)] [] m0 Q1
          refine zw_3 zr_143_0 rfl ?_
          refine zw_36 zr_143_1 ?_
          refine zw_push zr_143_2 ?_
          refine zw_7 zr_143_3 rfl ?_
          refine zw_C zr_143_4 (Or.inl rfl) zm_141 rfl rfl ⟨Nat.le_of_ble_eq_true rfl, Nat.le_of_ble_eq_true rfl, Nat.le_of_ble_eq_true rfl, rfl, by decide⟩ (by omega) (P := (fun v m' => zW E (d - 1) 143 7 [(2, 69), (0, a1)] (if v.1 = 9 then [(1, 0), (1, a1)] else v :: [(1, 0), (1, a1)]) m' Q1)) ?_ (fun _ _ h => h)
          generalize hQ2 : (fun v m' => zW E (d - 1) 143 7 [(2, 69), (0, a1)] (if v.1 = 9 then [(1, 0), (1, a1)] else v :: [(1, 0), (1, a1)]) m' Q1) = Q2
          show zW E (d - 1 - 1) 141 0 [(2, 69)] [] m0 Q2
          refine zw_7 zr_141_0 rfl ?_
          refine zw_46r (s := 70) zr_141_1 rfl rfl rfl rfl ?_
          refine zw_push zr_141_4 ?_
          obtain ⟨f72, ef72⟩ : ∃ v, m0 70 822 = v := ⟨_, rfl⟩
          have bf72 : 0 ≤ m0 70 822 ∧ m0 70 822 ≤ 10 := ib_70_players hI0 (by omega)
          rw [ef72] at bf72
          refine zw_48k (c := 70) (len := 826) zr_141_7 rfl rfl (by omega) (by omega) (show (822 : Int).toNat = 822 by omega) ef72 ?_
          refine zw_R zr_141_8 (by decide) zm_141 (v := (0, f72)) rfl ?_
          rw [← hQ2]
          show zW E (d - 1) 143 7 [(2, 69), (0, a1)] [(0, f72), (1, 0), (1, a1)] m0 Q1
          refine zw_push zr_143_7 ?_
          refine zw_17 zr_143_8 (by omega) ?_
          refine zw_36 zr_143_9 ?_
          refine zw_C zr_143_10 (Or.inr rfl) zm_140 rfl rfl ⟨Nat.le_of_ble_eq_true rfl, Nat.le_of_ble_eq_true rfl, Nat.le_of_ble_eq_true rfl, rfl, by decide⟩ (by omega) (P := (fun v m' => zW E (d - 1) 143 13 [(2, 69), (0, a1)] (if v.1 = 9 then [] else v :: []) m' Q1)) ?_ (fun _ _ h => h)
          generalize hQ2 : (fun v m' => zW E (d - 1) 143 13 [(2, 69), (0, a1)] (if v.1 = 9 then [] else v :: []) m' Q1) = Q2
          show zW E (d - 1 - 1) 140 0 [(1, a1), (9, 0), (1, 0), (9, 0), (1, (f72 - 1)), (9, 0)] [] m0 Q2
          refine zw_5 zr_140_0 rfl ?_
          refine zw_5 zr_140_1 rfl ?_
          refine zw_39_0 zr_140_2 zr_140_3 ?_ ?_
          · intro h73
            refine zw_push zr_140_17 ?_
            refine zw_R zr_140_18 (by decide) zm_140 (v := (0, 0)) (zRetB (by omega)) ?_
            rw [← hQ2]
            show zW E (d - 1) 143 13 [(2, 69), (0, a1)] [(0, 0)] m0 Q1
            refine zw_R zr_143_13 (by decide) zm_143 (v := (0, 0)) (zRetB (by omega)) ?_
            rw [← hQ1]
            show zW E (d) 146 43 [(2, 69), (0, a0), (0, a1), (0, a2), (0, a3), (0, a4), (0, 0), (9, 0)] [(0, 0)] m0 Q
            refine zw_40_1 zr_146_43 ?_ ?_
            · intro h74
              refine zw_push zr_146_72 ?_
              refine zw_R zr_146_74 (by decide) zm_146 (v := (0, (-2))) rfl ?_
              rw [← hQ]; exact ⟨_, rfl, by omega, by omega, hI0, hF0⟩
            · intro h75; omega
          · intro h76
            refine zw_5 zr_140_6 rfl ?_
            refine zw_6 zr_140_7 rfl ?_
            refine zw_39_2 zr_140_9 zr_140_10 ?_ ?_
            · intro h77
              refine zw_push zr_140_17 ?_
              refine zw_R zr_140_18 (by decide) zm_140 (v := (0, 0)) (zRetB (by omega)) ?_
              rw [← hQ2]
              show zW E (d - 1) 143 13 [(2, 69), (0, a1)] [(0, 0)] m0 Q1
              refine zw_R zr_143_13 (by decide) zm_143 (v := (0, 0)) (zRetB (by omega)) ?_
              rw [← hQ1]
              show zW E (d) 146 43 [(2, 69), (0, a0), (0, a1), (0, a2), (0, a3), (0, a4), (0, 0), (9, 0)] [(0, 0)] m0 Q
              refine zw_40_1 zr_146_43 ?_ ?_
              · intro h78
                refine zw_push zr_146_72 ?_
                refine zw_R zr_146_74 (by decide) zm_146 (v := (0, (-2))) rfl ?_
                rw [← hQ]; exact ⟨_, rfl, by omega, by omega, hI0, hF0⟩
              · intro h79; omega
            · intro h80
              refine zw_push zr_140_13 ?_
              refine zw_42 zr_140_14 ?_
              refine zw_R zr_140_18 (by decide) zm_140 (v := (0, 1)) (zRetB (by omega)) ?_
              rw [← hQ2]
              show zW E (d - 1) 143 13 [(2, 69), (0, a1)] [(0, 1)] m0 Q1
              refine zw_R zr_143_13 (by decide) zm_143 (v := (0, 1)) (zRetB (by omega)) ?_
              rw [← hQ1]
              show zW E (d) 146 43 [(2, 69), (0, a0), (0, a1), (0, a2), (0, a3), (0, a4), (0, 0), (9, 0)] [(0, 1)] m0 Q
              refine zw_40_1 zr_146_43 ?_ ?_
              · intro h81; omega
              · intro h82
                refine zw_7 zr_146_46 rfl ?_
                refine zw_3 zr_146_47 rfl ?_
                refine zw_C zr_146_48 (Or.inl rfl) zm_143 rfl rfl ⟨Nat.le_of_ble_eq_true rfl, Nat.le_of_ble_eq_true rfl, Nat.le_of_ble_eq_true rfl, rfl, by decide⟩ (by omega) (P := (fun v m' => zW E (d) 146 51 [(2, 69), (0, a0), (0, a1), (0, a2), (0, a3), (0, a4), (0, 0), (9, 0)] (if v.1 = 9 then [] else v :: []) m' Q)) ?_ (fun _ _ h => h)
                generalize hQ1 : (fun v m' => zW E (d) 146 51 [(2, 69), (0, a0), (0, a1), (0, a2), (0, a3), (0, a4), (0, 0), (9, 0)] (if v.1 = 9 then [] else v :: []) m' Q) = Q1
                show zW E (d - 1) 143 0 [(2, 69), (0, a2)] [] m0 Q1
                refine zw_3 zr_143_0 rfl ?_
                refine zw_36 zr_143_1 ?_
                refine zw_push zr_143_2 ?_
                refine zw_7 zr_143_3 rfl ?_
                refine zw_C zr_143_4 (Or.inl rfl) zm_141 rfl rfl ⟨Nat.le_of_ble_eq_true rfl, Nat.le_of_ble_eq_true rfl, Nat.le_of_ble_eq_true rfl, rfl, by decide⟩ (by omega) (P := (fun v m' => zW E (d - 1) 143 7 [(2, 69), (0, a2)] (if v.1 = 9 then [(1, 0), (1, a2)] else v :: [(1, 0), (1, a2)]) m' Q1)) ?_ (fun _ _ h => h)
                generalize hQ2 : (fun v m' => zW E (d - 1) 143 7 [(2, 69), (0, a2)] (if v.1 = 9 then [(1, 0), (1, a2)] else v :: [(1, 0), (1, a2)]) m' Q1) = Q2
                show zW E (d - 1 - 1) 141 0 [(2, 69)] [] m0 Q2
                refine zw_7 zr_141_0 rfl ?_
                refine zw_46r (s := 70) zr_141_1 rfl rfl rfl rfl ?_
                refine zw_push zr_141_4 ?_
                refine zw_48k (c := 70) (len := 826) zr_141_7 rfl rfl (by omega) (by omega) (show (822 : Int).toNat = 822 by omega) ef72 ?_
                refine zw_R zr_141_8 (by decide) zm_141 (v := (0, f72)) rfl ?_
                rw [← hQ2]
                show zW E (d - 1) 143 7 [(2, 69), (0, a2)] [(0, f72), (1, 0), (1, a2)] m0 Q1
                refine zw_push zr_143_7 ?_
                refine zw_17 zr_143_8 (by omega) ?_
                refine zw_36 zr_143_9 ?_
                refine zw_C zr_143_10 (Or.inr rfl) zm_140 rfl rfl ⟨Nat.le_of_ble_eq_true rfl, Nat.le_of_ble_eq_true rfl, Nat.le_of_ble_eq_true rfl, rfl, by decide⟩ (by omega) (P := (fun v m' => zW E (d - 1) 143 13 [(2, 69), (0, a2)] (if v.1 = 9 then [] else v :: []) m' Q1)) ?_ (fun _ _ h => h)
                generalize hQ2 : (fun v m' => zW E (d - 1) 143 13 [(2, 69), (0, a2)] (if v.1 = 9 then [] else v :: []) m' Q1) = Q2
                show zW E (d - 1 - 1) 140 0 [(1, a2), (9, 0), (1, 0), (9, 0), (1, (f72 - 1)), (9, 0)] [] m0 Q2
                refine zw_5 zr_140_0 rfl ?_
                refine zw_5 zr_140_1 rfl ?_
                refine zw_39_0 zr_140_2 zr_140_3 ?_ ?_
                · intro h83
                  refine zw_push zr_140_17 ?_
                  refine zw_R zr_140_18 (by decide) zm_140 (v := (0, 0)) (zRetB (by omega)) ?_
                  rw [← hQ2]
                  show zW E (d - 1) 143 13 [(2, 69), (0, a2)] [(0, 0)] m0 Q1
                  refine zw_R zr_143_13 (by decide) zm_143 (v := (0, 0)) (zRetB (by omega)) ?_
                  rw [← hQ1]
                  show zW E (d) 146 51 [(2, 69), (0, a0), (0, a1), (0, a2), (0, a3), (0, a4), (0, 0), (9, 0)] [(0, 0)] m0 Q
                  refine zw_40_1 zr_146_51 ?_ ?_
                  · intro h84
                    refine zw_push zr_146_72 ?_
                    refine zw_R zr_146_74 (by decide) zm_146 (v := (0, (-2))) rfl ?_
                    rw [← hQ]; exact ⟨_, rfl, by omega, by omega, hI0, hF0⟩
                  · intro h85; omega
                · intro h86
                  refine zw_5 zr_140_6 rfl ?_
                  refine zw_6 zr_140_7 rfl ?_
                  refine zw_39_2 zr_140_9 zr_140_10 ?_ ?_
                  · intro h87
                    refine zw_push zr_140_17 ?_
                    refine zw_R zr_140_18 (by decide) zm_140 (v := (0, 0)) (zRetB (by omega)) ?_
                    rw [← hQ2]
                    show zW E (d - 1) 143 13 [(2, 69), (0, a2)] [(0, 0)] m0 Q1
                    refine zw_R zr_143_13 (by decide) zm_143 (v := (0, 0)) (zRetB (by omega)) ?_
                    rw [← hQ1]
                    show zW E (d) 146 51 [(2, 69), (0, a0), (0, a1), (0, a2), (0, a3), (0, a4), (0, 0), (9, 0)] [(0, 0)] m0 Q
                    refine zw_40_1 zr_146_51 ?_ ?_
                    · intro h88
                      refine zw_push zr_146_72 ?_
                      refine zw_R zr_146_74 (by decide) zm_146 (v := (0, (-2))) rfl ?_
                      rw [← hQ]; exact ⟨_, rfl, by omega, by omega, hI0, hF0⟩
                    · intro h89; omega
                  · intro h90
                    refine zw_push zr_140_13 ?_
                    refine zw_42 zr_140_14 ?_
                    refine zw_R zr_140_18 (by decide) zm_140 (v := (0, 1)) (zRetB (by omega)) ?_
                    rw [← hQ2]
                    show zW E (d - 1) 143 13 [(2, 69), (0, a2)] [(0, 1)] m0 Q1
                    refine zw_R zr_143_13 (by decide) zm_143 (v := (0, 1)) (zRetB (by omega)) ?_
                    rw [← hQ1]
                    show zW E (d) 146 51 [(2, 69), (0, a0), (0, a1), (0, a2), (0, a3), (0, a4), (0, 0), (9, 0)] [(0, 1)] m0 Q
                    refine zw_40_1 zr_146_51 ?_ ?_
                    · intro h91; omega
                    · intro h92
                      refine zw_3 zr_146_54 rfl ?_
                      refine zw_3 zr_146_55 rfl ?_
                      refine zw_41_1 zr_146_56 ?_ ?_
                      · intro h93
                        refine zw_push zr_146_72 ?_
                        refine zw_R zr_146_74 (by decide) zm_146 (v := (0, (-2))) rfl ?_
                        rw [← hQ]; exact ⟨_, rfl, by omega, by omega, hI0, hF0⟩
                      · intro h94
                        refine zw_4 zr_146_59 rfl ?_
                        refine zw_36 zr_146_61 ?_
                        refine zw_push zr_146_62 ?_
                        refine zw_push zr_146_63 ?_
                        refine zw_C zr_146_66 (Or.inr rfl) zm_140 rfl rfl ⟨Nat.le_of_ble_eq_true rfl, Nat.le_of_ble_eq_true rfl, Nat.le_of_ble_eq_true rfl, rfl, by decide⟩ (by omega) (P := (fun v m' => zW E (d) 146 69 [(2, 69), (0, a0), (0, a1), (0, a2), (0, a3), (0, a4), (0, 0), (9, 0)] (if v.1 = 9 then [] else v :: []) m' Q)) ?_ (fun _ _ h => h)
                        generalize hQ1 : (fun v m' => zW E (d) 146 69 [(2, 69), (0, a0), (0, a1), (0, a2), (0, a3), (0, a4), (0, 0), (9, 0)] (if v.1 = 9 then [] else v :: []) m' Q) = Q1
                        show zW E (d - 1) 140 0 [(1, a3), (9, 0), (1, 0), (9, 0), (1, 2), (9, 0)] [] m0 Q1
                        refine zw_5 zr_140_0 rfl ?_
                        refine zw_5 zr_140_1 rfl ?_
                        refine zw_39_0 zr_140_2 zr_140_3 ?_ ?_
                        · intro h95
                          refine zw_push zr_140_17 ?_
                          refine zw_R zr_140_18 (by decide) zm_140 (v := (0, 0)) (zRetB (by omega)) ?_
                          rw [← hQ1]
                          show zW E (d) 146 69 [(2, 69), (0, a0), (0, a1), (0, a2), (0, a3), (0, a4), (0, 0), (9, 0)] [(0, 0)] m0 Q
                          refine zw_40_4 zr_146_69 ?_ ?_
                          · intro h96; omega
                          · intro h97
                            refine zw_push zr_146_72 ?_
                            refine zw_R zr_146_74 (by decide) zm_146 (v := (0, (-2))) rfl ?_
                            rw [← hQ]; exact ⟨_, rfl, by omega, by omega, hI0, hF0⟩
                        · intro h98
                          refine zw_5 zr_140_6 rfl ?_
                          refine zw_6 zr_140_7 rfl ?_
                          refine zw_39_2 zr_140_9 zr_140_10 ?_ ?_
                          · intro h99
                            refine zw_push zr_140_17 ?_
                            refine zw_R zr_140_18 (by decide) zm_140 (v := (0, 0)) (zRetB (by omega)) ?_
                            rw [← hQ1]
                            show zW E (d) 146 69 [(2, 69), (0, a0), (0, a1), (0, a2), (0, a3), (0, a4), (0, 0), (9, 0)] [(0, 0)] m0 Q
                            refine zw_40_4 zr_146_69 ?_ ?_
                            · intro h100; omega
                            · intro h101
                              refine zw_push zr_146_72 ?_
                              refine zw_R zr_146_74 (by decide) zm_146 (v := (0, (-2))) rfl ?_
                              rw [← hQ]; exact ⟨_, rfl, by omega, by omega, hI0, hF0⟩
                          · intro h102
                            refine zw_push zr_140_13 ?_
                            refine zw_42 zr_140_14 ?_
                            refine zw_R zr_140_18 (by decide) zm_140 (v := (0, 1)) (zRetB (by omega)) ?_
                            rw [← hQ1]
                            show zW E (d) 146 69 [(2, 69), (0, a0), (0, a1), (0, a2), (0, a3), (0, a4), (0, 0), (9, 0)] [(0, 1)] m0 Q
                            refine zw_40_4 zr_146_69 ?_ ?_
                            · intro h103
                              refine zw_7 zr_146_75 rfl ?_
                              refine zw_C zr_146_76 (Or.inl rfl) zm_142 rfl rfl ⟨Nat.le_of_ble_eq_true rfl, Nat.le_of_ble_eq_true rfl, Nat.le_of_ble_eq_true rfl, rfl, by decide⟩ (by omega) (P := (fun v m' => zW E (d) 146 79 [(2, 69), (0, a0), (0, a1), (0, a2), (0, a3), (0, a4), (0, 0), (9, 0)] (if v.1 = 9 then [] else v :: []) m' Q)) ?_ (fun _ _ h => h)
                              generalize hQ1 : (fun v m' => zW E (d) 146 79 [(2, 69), (0, a0), (0, a1), (0, a2), (0, a3), (0, a4), (0, 0), (9, 0)] (if v.1 = 9 then [] else v :: []) m' Q) = Q1
                              show zW E (d - 1) 142 0 [(2, 69)] [] m0 Q1
                              refine zw_7 zr_142_0 rfl ?_
                              refine zw_46r (s := 70) zr_142_1 rfl rfl rfl rfl ?_
                              refine zw_push zr_142_4 ?_
                              refine zw_48k (c := 70) (len := 826) zr_142_7 rfl rfl (by omega) (by omega) (show (823 : Int).toNat = 823 by omega) ef1 ?_
                              refine zw_R zr_142_8 (by decide) zm_142 (v := (0, f1)) rfl ?_
                              rw [← hQ1]
                              show zW E (d) 146 79 [(2, 69), (0, a0), (0, a1), (0, a2), (0, a3), (0, a4), (0, 0), (9, 0)] [(0, f1)] m0 Q
                              refine zw_push zr_146_79 ?_
                              refine zw_41_4 zr_146_81 ?_ ?_
                              · intro h104
                                refine zw_push zr_146_87 ?_
                                refine zw_push zr_146_89 ?_
                                refine zw_7 zr_146_91 rfl ?_
                                refine zw_C zr_146_92 (Or.inl rfl) zm_142 rfl rfl ⟨Nat.le_of_ble_eq_true rfl, Nat.le_of_ble_eq_true rfl, Nat.le_of_ble_eq_true rfl, rfl, by decide⟩ (by omega) (P := (fun v m' => zW E (d) 146 95 [(2, 69), (0, a0), (0, a1), (0, a2), (0, a3), (0, a4), (0, 0), (9, 0)] (if v.1 = 9 then [(0, 6), (0, 90)] else v :: [(0, 6), (0, 90)]) m' Q)) ?_ (fun _ _ h => h)
                                generalize hQ1 : (fun v m' => zW E (d) 146 95 [(2, 69), (0, a0), (0, a1), (0, a2), (0, a3), (0, a4), (0, 0), (9, 0)] (if v.1 = 9 then [(0, 6), (0, 90)] else v :: [(0, 6), (0, 90)]) m' Q) = Q1
                                show zW E (d - 1) 142 0 [(2, 69)] [] m0 Q1
                                refine zw_7 zr_142_0 rfl ?_
                                refine zw_46r (s := 70) zr_142_1 rfl rfl rfl rfl ?_
                                refine zw_push zr_142_4 ?_
                                refine zw_48k (c := 70) (len := 826) zr_142_7 rfl rfl (by omega) (by omega) (show (823 : Int).toNat = 823 by omega) ef1 ?_
                                refine zw_R zr_142_8 (by decide) zm_142 (v := (0, f1)) rfl ?_
                                rw [← hQ1]
                                show zW E (d) 146 95 [(2, 69), (0, a0), (0, a1), (0, a2), (0, a3), (0, a4), (0, 0), (9, 0)] [(0, f1), (0, 6), (0, 90)] m0 Q
                                refine zw_18 zr_146_95 (by omega) ?_
                                refine zw_16 zr_146_96 (by omega) ?_
                                refine zw_10 (L' := [(2, 69), (0, a0), (0, a1), (0, a2), (0, a3), (0, a4), (0, 0), (0, (90 + (6 * f1)))]) zr_146_97 (Nat.le_of_ble_eq_true rfl) rfl ?_
                                refine zw_7 zr_146_99 rfl ?_
                                refine zw_46r (s := 70) zr_146_100 rfl rfl rfl rfl ?_
                                refine zw_4 zr_146_103 rfl ?_
                                refine zw_push zr_146_105 ?_
                                refine zw_16 zr_146_106 (by omega) ?_
                                refine zw_3 zr_146_107 rfl ?_
                                refine zw_49 (c := 70) (len := 826) zr_146_108 rfl rfl (by omega) (by omega) ?_
                                intro m105 em105
                                have hIm105 : zInv m105 := by rw [em105]; exact iu_70_m0 hI0 (by omega) (by omega)
                                have hFm105 : zFr W_146 m0 m105 := by rw [em105]; exact hF0.any rfl
                                have km105_70_823 : m105 70 823 = f1 := by rw [em105, zUp_ne (by omega)]; exact ef1
                                have km105_70_822 : m105 70 822 = f72 := by rw [em105, zUp_ne (by omega)]; exact ef72
                                have km105_70_90 : m105 70 90 = a0 := by rw [em105, show (((90 + (6 * f1)) + 0) : Int).toNat = 90 by omega]; exact zUp_eq _ _ _ _
                                clear em105
                                refine zw_7 zr_146_109 rfl ?_
                                refine zw_46r (s := 70) zr_146_110 rfl rfl rfl rfl ?_
                                refine zw_4 zr_146_113 rfl ?_
                                refine zw_push zr_146_115 ?_
                                refine zw_16 zr_146_116 (by omega) ?_
                                refine zw_3 zr_146_117 rfl ?_
                                refine zw_49 (c := 70) (len := 826) zr_146_118 rfl rfl (by omega) (by omega) ?_
                                intro m106 em106
                                have hIm106 : zInv m106 := by rw [em106]; exact iu_70_m1 hIm105 (by omega) (by omega)
                                have hFm106 : zFr W_146 m0 m106 := by rw [em106]; exact hFm105.any rfl
                                have km106_70_823 : m106 70 823 = f1 := by rw [em106, zUp_ne (by omega)]; exact km105_70_823
                                have km106_70_822 : m106 70 822 = f72 := by rw [em106, zUp_ne (by omega)]; exact km105_70_822
                                have km106_70_90 : m106 70 90 = a0 := by rw [em106, zUp_ne (by omega)]; exact km105_70_90
                                have km106_70_91 : m106 70 91 = a1 := by rw [em106, show (((90 + (6 * f1)) + 1) : Int).toNat = 91 by omega]; exact zUp_eq _ _ _ _
                                clear em106
                                refine zw_7 zr_146_119 rfl ?_
                                refine zw_46r (s := 70) zr_146_120 rfl rfl rfl rfl ?_
                                refine zw_4 zr_146_123 rfl ?_
                                refine zw_push zr_146_125 ?_
                                refine zw_16 zr_146_126 (by omega) ?_
                                refine zw_3 zr_146_127 rfl ?_
                                refine zw_49 (c := 70) (len := 826) zr_146_128 rfl rfl (by omega) (by omega) ?_
                                intro m107 em107
                                have hIm107 : zInv m107 := by rw [em107]; exact iu_70_m2 hIm106 (by omega) (by omega)
                                have hFm107 : zFr W_146 m0 m107 := by rw [em107]; exact hFm106.any rfl
                                have km107_70_823 : m107 70 823 = f1 := by rw [em107, zUp_ne (by omega)]; exact km106_70_823
                                have km107_70_822 : m107 70 822 = f72 := by rw [em107, zUp_ne (by omega)]; exact km106_70_822
                                have km107_70_90 : m107 70 90 = a0 := by rw [em107, zUp_ne (by omega)]; exact km106_70_90
                                have km107_70_91 : m107 70 91 = a1 := by rw [em107, zUp_ne (by omega)]; exact km106_70_91
                                have km107_70_92 : m107 70 92 = a2 := by rw [em107, show (((90 + (6 * f1)) + 2) : Int).toNat = 92 by omega]; exact zUp_eq _ _ _ _
                                clear em107
                                refine zw_7 zr_146_129 rfl ?_
                                refine zw_46r (s := 70) zr_146_130 rfl rfl rfl rfl ?_
                                refine zw_4 zr_146_133 rfl ?_
                                refine zw_push zr_146_135 ?_
                                refine zw_16 zr_146_136 (by omega) ?_
                                refine zw_4 zr_146_137 rfl ?_
                                refine zw_49 (c := 70) (len := 826) zr_146_139 rfl rfl (by omega) (by omega) ?_
                                intro m108 em108
                                have hIm108 : zInv m108 := by rw [em108]; exact iu_70_m3 hIm107 (by omega) (by omega)
                                have hFm108 : zFr W_146 m0 m108 := by rw [em108]; exact hFm107.any rfl
                                have km108_70_823 : m108 70 823 = f1 := by rw [em108, zUp_ne (by omega)]; exact km107_70_823
                                have km108_70_822 : m108 70 822 = f72 := by rw [em108, zUp_ne (by omega)]; exact km107_70_822
                                have km108_70_90 : m108 70 90 = a0 := by rw [em108, zUp_ne (by omega)]; exact km107_70_90
                                have km108_70_91 : m108 70 91 = a1 := by rw [em108, zUp_ne (by omega)]; exact km107_70_91
                                have km108_70_92 : m108 70 92 = a2 := by rw [em108, zUp_ne (by omega)]; exact km107_70_92
                                have km108_70_93 : m108 70 93 = a3 := by rw [em108, show (((90 + (6 * f1)) + 3) : Int).toNat = 93 by omega]; exact zUp_eq _ _ _ _
                                clear em108
                                refine zw_7 zr_146_140 rfl ?_
                                refine zw_46r (s := 70) zr_146_141 rfl rfl rfl rfl ?_
                                refine zw_4 zr_146_144 rfl ?_
                                refine zw_push zr_146_146 ?_
                                refine zw_16 zr_146_147 (by omega) ?_
                                refine zw_4 zr_146_148 rfl ?_
                                refine zw_40_1 zr_146_150 ?_ ?_
                                · intro h109
                                  refine zw_push zr_146_157 ?_
                                  refine zw_49 (c := 70) (len := 826) zr_146_158 rfl rfl (by omega) (by omega) ?_
                                  intro m110 em110
                                  have hIm110 : zInv m110 := by rw [em110]; exact iu_70_m4 hIm108 (by omega) (by omega)
                                  have hFm110 : zFr W_146 m0 m110 := by rw [em110]; exact hFm108.any rfl
                                  have km110_70_823 : m110 70 823 = f1 := by rw [em110, zUp_ne (by omega)]; exact km108_70_823
                                  have km110_70_822 : m110 70 822 = f72 := by rw [em110, zUp_ne (by omega)]; exact km108_70_822
                                  have km110_70_90 : m110 70 90 = a0 := by rw [em110, zUp_ne (by omega)]; exact km108_70_90
                                  have km110_70_91 : m110 70 91 = a1 := by rw [em110, zUp_ne (by omega)]; exact km108_70_91
                                  have km110_70_92 : m110 70 92 = a2 := by rw [em110, zUp_ne (by omega)]; exact km108_70_92
                                  have km110_70_93 : m110 70 93 = a3 := by rw [em110, zUp_ne (by omega)]; exact km108_70_93
                                  have km110_70_94 : m110 70 94 = 0 := by rw [em110, show (((90 + (6 * f1)) + 4) : Int).toNat = 94 by omega]; exact zUp_eq _ _ _ _
                                  clear em110
                                  refine zw_7 zr_146_159 rfl ?_
                                  refine zw_46r (s := 70) zr_146_160 rfl rfl rfl rfl ?_
                                  refine zw_4 zr_146_163 rfl ?_
                                  refine zw_push zr_146_165 ?_
                                  refine zw_16 zr_146_166 (by omega) ?_
                                  refine zw_push zr_146_167 ?_
                                  refine zw_49 (c := 70) (len := 826) zr_146_168 rfl rfl (by omega) (by omega) ?_
                                  intro m111 em111
                                  have hIm111 : zInv m111 := by rw [em111]; exact iu_70_m5 hIm110 (by omega) (by omega)
                                  have hFm111 : zFr W_146 m0 m111 := by rw [em111]; exact hFm110.any rfl
                                  have km111_70_823 : m111 70 823 = f1 := by rw [em111, zUp_ne (by omega)]; exact km110_70_823
                                  have km111_70_822 : m111 70 822 = f72 := by rw [em111, zUp_ne (by omega)]; exact km110_70_822
                                  have km111_70_90 : m111 70 90 = a0 := by rw [em111, zUp_ne (by omega)]; exact km110_70_90
                                  have km111_70_91 : m111 70 91 = a1 := by rw [em111, zUp_ne (by omega)]; exact km110_70_91
                                  have km111_70_92 : m111 70 92 = a2 := by rw [em111, zUp_ne (by omega)]; exact km110_70_92
                                  have km111_70_93 : m111 70 93 = a3 := by rw [em111, zUp_ne (by omega)]; exact km110_70_93
                                  have km111_70_94 : m111 70 94 = 0 := by rw [em111, zUp_ne (by omega)]; exact km110_70_94
                                  have km111_70_95 : m111 70 95 = 0 := by rw [em111, show (((90 + (6 * f1)) + 5) : Int).toNat = 95 by omega]; exact zUp_eq _ _ _ _
                                  clear em111
                                  refine zw_7 zr_146_169 rfl ?_
                                  refine zw_46r (s := 70) zr_146_170 rfl rfl rfl rfl ?_
                                  refine zw_push zr_146_173 ?_
                                  refine zw_45 zr_146_176 ⟨rfl, rfl⟩ ?_
                                  refine zw_48k (c := 70) (len := 826) zr_146_177 rfl rfl (by omega) (by omega) (show (823 : Int).toNat = 823 by omega) km111_70_823 ?_
                                  refine zw_push zr_146_178 ?_
                                  refine zw_16 zr_146_179 (by omega) ?_
                                  refine zw_49 (c := 70) (len := 826) zr_146_180 rfl rfl (by omega) (by omega) ?_
                                  intro m112 em112
                                  have hIm112 : zInv m112 := by rw [em112]; exact iu_70_meetings hIm111 (by omega) (by omega)
                                  have hFm112 : zFr W_146 m0 m112 := by rw [em112]; exact hFm111.any rfl
                                  have km112_70_822 : m112 70 822 = f72 := by rw [em112, zUp_ne (by omega)]; exact km111_70_822
                                  have km112_70_90 : m112 70 90 = a0 := by rw [em112, zUp_ne (by omega)]; exact km111_70_90
                                  have km112_70_91 : m112 70 91 = a1 := by rw [em112, zUp_ne (by omega)]; exact km111_70_91
                                  have km112_70_92 : m112 70 92 = a2 := by rw [em112, zUp_ne (by omega)]; exact km111_70_92
                                  have km112_70_93 : m112 70 93 = a3 := by rw [em112, zUp_ne (by omega)]; exact km111_70_93
                                  have km112_70_94 : m112 70 94 = 0 := by rw [em112, zUp_ne (by omega)]; exact km111_70_94
                                  have km112_70_95 : m112 70 95 = 0 := by rw [em112, zUp_ne (by omega)]; exact km111_70_95
                                  have km112_70_823 : m112 70 823 = (f1 + 1) := by rw [em112, show (823 : Int).toNat = 823 by omega]; exact zUp_eq _ _ _ _
                                  clear em112
                                  refine zw_7 zr_146_181 rfl ?_
                                  refine zw_C zr_146_182 (Or.inl rfl) zm_142 rfl rfl ⟨Nat.le_of_ble_eq_true rfl, Nat.le_of_ble_eq_true rfl, Nat.le_of_ble_eq_true rfl, rfl, by decide⟩ (by omega) (P := (fun v m' => zW E (d) 146 185 [(2, 69), (0, a0), (0, a1), (0, a2), (0, a3), (0, a4), (0, 0), (0, (90 + (6 * f1)))] (if v.1 = 9 then [] else v :: []) m' Q)) ?_ (fun _ _ h => h)
                                  generalize hQ1 : (fun v m' => zW E (d) 146 185 [(2, 69), (0, a0), (0, a1), (0, a2), (0, a3), (0, a4), (0, 0), (0, (90 + (6 * f1)))] (if v.1 = 9 then [] else v :: []) m' Q) = Q1
                                  show zW E (d - 1) 142 0 [(2, 69)] [] m112 Q1
                                  refine zw_7 zr_142_0 rfl ?_
                                  refine zw_46r (s := 70) zr_142_1 rfl rfl rfl rfl ?_
                                  refine zw_push zr_142_4 ?_
                                  refine zw_48k (c := 70) (len := 826) zr_142_7 rfl rfl (by omega) (by omega) (show (823 : Int).toNat = 823 by omega) km112_70_823 ?_
                                  refine zw_R zr_142_8 (by decide) zm_142 (v := (0, (f1 + 1))) rfl ?_
                                  rw [← hQ1]
                                  show zW E (d) 146 185 [(2, 69), (0, a0), (0, a1), (0, a2), (0, a3), (0, a4), (0, 0), (0, (90 + (6 * f1)))] [(0, (f1 + 1))] m112 Q
                                  refine zw_push zr_146_185 ?_
                                  refine zw_17 zr_146_186 (by omega) ?_
                                  refine zw_R zr_146_187 (by decide) zm_146 (v := (0, ((f1 + 1) - 1))) rfl ?_
                                  rw [← hQ]; exact ⟨_, rfl, by omega, by omega, hIm112, hFm112⟩
                                · intro h113
                                  refine zw_push zr_146_153 ?_
                                  refine zw_42 zr_146_154 ?_
                                  refine zw_49 (c := 70) (len := 826) zr_146_158 rfl rfl (by omega) (by omega) ?_
                                  intro m114 em114
                                  have hIm114 : zInv m114 := by rw [em114]; exact iu_70_m4 hIm108 (by omega) (by omega)
                                  have hFm114 : zFr W_146 m0 m114 := by rw [em114]; exact hFm108.any rfl
                                  have km114_70_823 : m114 70 823 = f1 := by rw [em114, zUp_ne (by omega)]; exact km108_70_823
                                  have km114_70_822 : m114 70 822 = f72 := by rw [em114, zUp_ne (by omega)]; exact km108_70_822
                                  have km114_70_90 : m114 70 90 = a0 := by rw [em114, zUp_ne (by omega)]; exact km108_70_90
                                  have km114_70_91 : m114 70 91 = a1 := by rw [em114, zUp_ne (by omega)]; exact km108_70_91
                                  have km114_70_92 : m114 70 92 = a2 := by rw [em114, zUp_ne (by omega)]; exact km108_70_92
                                  have km114_70_93 : m114 70 93 = a3 := by rw [em114, zUp_ne (by omega)]; exact km108_70_93
                                  have km114_70_94 : m114 70 94 = 1 := by rw [em114, show (((90 + (6 * f1)) + 4) : Int).toNat = 94 by omega]; exact zUp_eq _ _ _ _
                                  clear em114
                                  refine zw_7 zr_146_159 rfl ?_
                                  refine zw_46r (s := 70) zr_146_160 rfl rfl rfl rfl ?_
                                  refine zw_4 zr_146_163 rfl ?_
                                  refine zw_push zr_146_165 ?_
                                  refine zw_16 zr_146_166 (by omega) ?_
                                  refine zw_push zr_146_167 ?_
                                  refine zw_49 (c := 70) (len := 826) zr_146_168 rfl rfl (by omega) (by omega) ?_
                                  intro m115 em115
                                  have hIm115 : zInv m115 := by rw [em115]; exact iu_70_m5 hIm114 (by omega) (by omega)
                                  have hFm115 : zFr W_146 m0 m115 := by rw [em115]; exact hFm114.any rfl
                                  have km115_70_823 : m115 70 823 = f1 := by rw [em115, zUp_ne (by omega)]; exact km114_70_823
                                  have km115_70_822 : m115 70 822 = f72 := by rw [em115, zUp_ne (by omega)]; exact km114_70_822
                                  have km115_70_90 : m115 70 90 = a0 := by rw [em115, zUp_ne (by omega)]; exact km114_70_90
                                  have km115_70_91 : m115 70 91 = a1 := by rw [em115, zUp_ne (by omega)]; exact km114_70_91
                                  have km115_70_92 : m115 70 92 = a2 := by rw [em115, zUp_ne (by omega)]; exact km114_70_92
                                  have km115_70_93 : m115 70 93 = a3 := by rw [em115, zUp_ne (by omega)]; exact km114_70_93
                                  have km115_70_94 : m115 70 94 = 1 := by rw [em115, zUp_ne (by omega)]; exact km114_70_94
                                  have km115_70_95 : m115 70 95 = 0 := by rw [em115, show (((90 + (6 * f1)) + 5) : Int).toNat = 95 by omega]; exact zUp_eq _ _ _ _
                                  clear em115
                                  refine zw_7 zr_146_169 rfl ?_
                                  refine zw_46r (s := 70) zr_146_170 rfl rfl rfl rfl ?_
                                  refine zw_push zr_146_173 ?_
                                  refine zw_45 zr_146_176 ⟨rfl, rfl⟩ ?_
                                  refine zw_48k (c := 70) (len := 826) zr_146_177 rfl rfl (by omega) (by omega) (show (823 : Int).toNat = 823 by omega) km115_70_823 ?_
                                  refine zw_push zr_146_178 ?_
                                  refine zw_16 zr_146_179 (by omega) ?_
                                  refine zw_49 (c := 70) (len := 826) zr_146_180 rfl rfl (by omega) (by omega) ?_
                                  intro m116 em116
                                  have hIm116 : zInv m116 := by rw [em116]; exact iu_70_meetings hIm115 (by omega) (by omega)
                                  have hFm116 : zFr W_146 m0 m116 := by rw [em116]; exact hFm115.any rfl
                                  have km116_70_822 : m116 70 822 = f72 := by rw [em116, zUp_ne (by omega)]; exact km115_70_822
                                  have km116_70_90 : m116 70 90 = a0 := by rw [em116, zUp_ne (by omega)]; exact km115_70_90
                                  have km116_70_91 : m116 70 91 = a1 := by rw [em116, zUp_ne (by omega)]; exact km115_70_91
                                  have km116_70_92 : m116 70 92 = a2 := by rw [em116, zUp_ne (by omega)]; exact km115_70_92
                                  have km116_70_93 : m116 70 93 = a3 := by rw [em116, zUp_ne (by omega)]; exact km115_70_93
                                  have km116_70_94 : m116 70 94 = 1 := by rw [em116, zUp_ne (by omega)]; exact km115_70_94
                                  have km116_70_95 : m116 70 95 = 0 := by rw [em116, zUp_ne (by omega)]; exact km115_70_95
                                  have km116_70_823 : m116 70 823 = (f1 + 1) := by rw [em116, show (823 : Int).toNat = 823 by omega]; exact zUp_eq _ _ _ _
                                  clear em116
                                  refine zw_7 zr_146_181 rfl ?_
                                  refine zw_C zr_146_182 (Or.inl rfl) zm_142 rfl rfl ⟨Nat.le_of_ble_eq_true rfl, Nat.le_of_ble_eq_true rfl, Nat.le_of_ble_eq_true rfl, rfl, by decide⟩ (by omega) (P := (fun v m' => zW E (d) 146 185 [(2, 69), (0, a0), (0, a1), (0, a2), (0, a3), (0, a4), (0, 0), (0, (90 + (6 * f1)))] (if v.1 = 9 then [] else v :: []) m' Q)) ?_ (fun _ _ h => h)
                                  generalize hQ1 : (fun v m' => zW E (d) 146 185 [(2, 69), (0, a0), (0, a1), (0, a2), (0, a3), (0, a4), (0, 0), (0, (90 + (6 * f1)))] (if v.1 = 9 then [] else v :: []) m' Q) = Q1
                                  show zW E (d - 1) 142 0 [(2, 69)] [] m116 Q1
                                  refine zw_7 zr_142_0 rfl ?_
                                  refine zw_46r (s := 70) zr_142_1 rfl rfl rfl rfl ?_
                                  refine zw_push zr_142_4 ?_
                                  refine zw_48k (c := 70) (len := 826) zr_142_7 rfl rfl (by omega) (by omega) (show (823 : Int).toNat = 823 by omega) km116_70_823 ?_
                                  refine zw_R zr_142_8 (by decide) zm_142 (v := (0, (f1 + 1))) rfl ?_
                                  rw [← hQ1]
                                  show zW E (d) 146 185 [(2, 69), (0, a0), (0, a1), (0, a2), (0, a3), (0, a4), (0, 0), (0, (90 + (6 * f1)))] [(0, (f1 + 1))] m116 Q
                                  refine zw_push zr_146_185 ?_
                                  refine zw_17 zr_146_186 (by omega) ?_
                                  refine zw_R zr_146_187 (by decide) zm_146 (v := (0, ((f1 + 1) - 1))) rfl ?_
                                  rw [← hQ]; exact ⟨_, rfl, by omega, by omega, hIm116, hFm116⟩
                              · intro h117; omega
                            · intro h118; omega

abbrev W_103 : List (Nat × Nat) := [(1, 2), (1, 3)]
set_option maxHeartbeats 8000000 in
theorem th_103 {E : zE} {d : Nat} {m0 : zM} {a0 : Int} {a1 : Int} {a2 : Int} (hd : 2 ≤ d) (hI0 : zInv m0) (ha0 : (-2147483648) ≤ a0 ∧ a0 ≤ 2147483647) (ha1 : (-2147483648) ≤ a1 ∧ a1 ≤ 2147483647) (ha2 : 0 ≤ a2 ∧ a2 ≤ 1) : zC E d 103 [(2, 0), (0, a0), (0, a1), (0, a2)] m0 (fun v m' => ∃ r : Int, v = (0, r) ∧ (-3) ≤ r ∧ r ≤ 1 ∧ zInv m' ∧ zFr W_103 m0 m') := by
  have hF0 : zFr W_103 m0 m0 := zFr.rfl
  generalize hQ : (fun (v : zV) (m' : zM) => ∃ r : Int, v = (0, r) ∧ (-3) ≤ r ∧ r ≤ 1 ∧ zInv m' ∧ zFr W_103 m0 m') = Q
  show zW E d 103 0 [(2, 0), (0, a0), (0, a1), (0, a2), (9, 0), (9, 0), (9, 0), (9, 0)] [] m0 Q
  refine zw_3 zr_103_0 rfl ?_
  refine zw_push zr_103_1 ?_
  refine zw_7 zr_103_2 rfl ?_
  refine zw_46r (s := 1) zr_103_3 rfl rfl rfl rfl ?_
  obtain ⟨f1, ef1⟩ : ∃ v, m0 1 1 = v := ⟨_, rfl⟩
  have bf1 := ib_1_1 hI0
  rw [ef1] at bf1
  refine zw_46i zr_103_6 ef1 rfl rfl rfl ?_
  refine zw_push zr_103_9 ?_
  refine zw_17 zr_103_10 (by omega) ?_
  refine zw_C zr_103_11 (Or.inr rfl) zm_100 rfl rfl ⟨Nat.le_of_ble_eq_true rfl, Nat.le_of_ble_eq_true rfl, Nat.le_of_ble_eq_true rfl, rfl, by decide⟩ (by omega) (P := (fun v m' => zW E (d) 103 14 [(2, 0), (0, a0), (0, a1), (0, a2), (9, 0), (9, 0), (9, 0), (9, 0)] (if v.1 = 9 then [] else v :: []) m' Q)) ?_ (fun _ _ h => h)
  generalize hQ1 : (fun v m' => zW E (d) 103 14 [(2, 0), (0, a0), (0, a1), (0, a2), (9, 0), (9, 0), (9, 0), (9, 0)] (if v.1 = 9 then [] else v :: []) m' Q) = Q1
  show zW E (d - 1) 100 0 [(0, a0), (0, 0), (0, (f1 - 1))] [] m0 Q1
  refine zw_3 zr_100_0 rfl ?_
  refine zw_3 zr_100_1 rfl ?_
  refine zw_41_0 zr_100_2 ?_ ?_
  · intro h2
    refine zw_push zr_100_14 ?_
    refine zw_R zr_100_15 (by decide) zm_100 (v := (0, 0)) (zRetB (by omega)) ?_
    rw [← hQ1]
    show zW E (d) 103 14 [(2, 0), (0, a0), (0, a1), (0, a2), (9, 0), (9, 0), (9, 0), (9, 0)] [(0, 0)] m0 Q
    refine zw_40_1 zr_103_14 ?_ ?_
    · intro h3
      refine zw_push zr_103_26 ?_
      refine zw_R zr_103_28 (by decide) zm_103 (v := (0, (-2))) rfl ?_
      rw [← hQ]; exact ⟨_, rfl, by omega, by omega, hI0, hF0⟩
    · intro h4; omega
  · intro h5
    refine zw_3 zr_100_5 rfl ?_
    refine zw_3 zr_100_6 rfl ?_
    refine zw_41_2 zr_100_7 ?_ ?_
    · intro h6
      refine zw_push zr_100_14 ?_
      refine zw_R zr_100_15 (by decide) zm_100 (v := (0, 0)) (zRetB (by omega)) ?_
      rw [← hQ1]
      show zW E (d) 103 14 [(2, 0), (0, a0), (0, a1), (0, a2), (9, 0), (9, 0), (9, 0), (9, 0)] [(0, 0)] m0 Q
      refine zw_40_1 zr_103_14 ?_ ?_
      · intro h7
        refine zw_push zr_103_26 ?_
        refine zw_R zr_103_28 (by decide) zm_103 (v := (0, (-2))) rfl ?_
        rw [← hQ]; exact ⟨_, rfl, by omega, by omega, hI0, hF0⟩
      · intro h8; omega
    · intro h9
      refine zw_push zr_100_10 ?_
      refine zw_42 zr_100_11 ?_
      refine zw_R zr_100_15 (by decide) zm_100 (v := (0, 1)) (zRetB (by omega)) ?_
      rw [← hQ1]
      show zW E (d) 103 14 [(2, 0), (0, a0), (0, a1), (0, a2), (9, 0), (9, 0), (9, 0), (9, 0)] [(0, 1)] m0 Q
      refine zw_40_1 zr_103_14 ?_ ?_
      · intro h10; omega
      · intro h11
        refine zw_3 zr_103_17 rfl ?_
        refine zw_push zr_103_18 ?_
        refine zw_push zr_103_19 ?_
        refine zw_C zr_103_20 (Or.inr rfl) zm_100 rfl rfl ⟨Nat.le_of_ble_eq_true rfl, Nat.le_of_ble_eq_true rfl, Nat.le_of_ble_eq_true rfl, rfl, by decide⟩ (by omega) (P := (fun v m' => zW E (d) 103 23 [(2, 0), (0, a0), (0, a1), (0, a2), (9, 0), (9, 0), (9, 0), (9, 0)] (if v.1 = 9 then [] else v :: []) m' Q)) ?_ (fun _ _ h => h)
        generalize hQ1 : (fun v m' => zW E (d) 103 23 [(2, 0), (0, a0), (0, a1), (0, a2), (9, 0), (9, 0), (9, 0), (9, 0)] (if v.1 = 9 then [] else v :: []) m' Q) = Q1
        show zW E (d - 1) 100 0 [(0, a1), (0, 0), (0, 1)] [] m0 Q1
        refine zw_3 zr_100_0 rfl ?_
        refine zw_3 zr_100_1 rfl ?_
        refine zw_41_0 zr_100_2 ?_ ?_
        · intro h12
          refine zw_push zr_100_14 ?_
          refine zw_R zr_100_15 (by decide) zm_100 (v := (0, 0)) (zRetB (by omega)) ?_
          rw [← hQ1]
          show zW E (d) 103 23 [(2, 0), (0, a0), (0, a1), (0, a2), (9, 0), (9, 0), (9, 0), (9, 0)] [(0, 0)] m0 Q
          refine zw_40_4 zr_103_23 ?_ ?_
          · intro h13; omega
          · intro h14
            refine zw_push zr_103_26 ?_
            refine zw_R zr_103_28 (by decide) zm_103 (v := (0, (-2))) rfl ?_
            rw [← hQ]; exact ⟨_, rfl, by omega, by omega, hI0, hF0⟩
        · intro h15
          refine zw_3 zr_100_5 rfl ?_
          refine zw_3 zr_100_6 rfl ?_
          refine zw_41_2 zr_100_7 ?_ ?_
          · intro h16
            refine zw_push zr_100_14 ?_
            refine zw_R zr_100_15 (by decide) zm_100 (v := (0, 0)) (zRetB (by omega)) ?_
            rw [← hQ1]
            show zW E (d) 103 23 [(2, 0), (0, a0), (0, a1), (0, a2), (9, 0), (9, 0), (9, 0), (9, 0)] [(0, 0)] m0 Q
            refine zw_40_4 zr_103_23 ?_ ?_
            · intro h17; omega
            · intro h18
              refine zw_push zr_103_26 ?_
              refine zw_R zr_103_28 (by decide) zm_103 (v := (0, (-2))) rfl ?_
              rw [← hQ]; exact ⟨_, rfl, by omega, by omega, hI0, hF0⟩
          · intro h19
            refine zw_push zr_100_10 ?_
            refine zw_42 zr_100_11 ?_
            refine zw_R zr_100_15 (by decide) zm_100 (v := (0, 1)) (zRetB (by omega)) ?_
            rw [← hQ1]
            show zW E (d) 103 23 [(2, 0), (0, a0), (0, a1), (0, a2), (9, 0), (9, 0), (9, 0), (9, 0)] [(0, 1)] m0 Q
            refine zw_40_4 zr_103_23 ?_ ?_
            · intro h20
              refine zw_push zr_103_29 ?_
              refine zw_3 zr_103_30 rfl ?_
              refine zw_33h zr_103_31 ?_
              intro x21 hx21a hx21b
              refine zw_14 (L' := [(2, 0), (0, a0), (0, a1), (0, a2), (1, x21), (9, 0), (9, 0), (9, 0)]) zr_103_32 (Nat.le_of_ble_eq_true rfl) rfl ?_
              refine zw_3 zr_103_34 rfl ?_
              refine zw_40_4 zr_103_35 ?_ ?_
              · intro h22
                refine zw_7 zr_103_48 rfl ?_
                refine zw_46r (s := 1) zr_103_49 rfl rfl rfl rfl ?_
                obtain ⟨f23, ef23⟩ : ∃ v, m0 1 3 = v := ⟨_, rfl⟩
                have bf23 := hI0.fl (c := 1) (k := 3) rfl
                rw [ef23] at bf23
                refine zw_46l zr_103_52 ef23 rfl rfl rfl ?_
                refine zw_14 (L' := [(2, 0), (0, a0), (0, a1), (0, a2), (1, x21), (9, 0), (1, f23), (9, 0)]) zr_103_55 (Nat.le_of_ble_eq_true rfl) rfl ?_
                refine zw_6 zr_103_57 rfl ?_
                refine zw_6 zr_103_59 rfl ?_
                refine zw_30h zr_103_61 ?_
                intro x24 hx24a hx24b
                refine zw_push zr_103_62 ?_
                refine zw_39_1 zr_103_63 zr_103_64 ?_ ?_
                · intro h25
                  refine zw_push zr_103_71 ?_
                  refine zw_3 zr_103_72 rfl ?_
                  refine zw_41_4 zr_103_73 ?_ ?_
                  · intro h26
                    refine zw_3 zr_103_79 rfl ?_
                    refine zw_40_4 zr_103_80 ?_ ?_
                    · intro h27
                      refine zw_7 zr_103_100 rfl ?_
                      refine zw_46r (s := 1) zr_103_101 rfl rfl rfl rfl ?_
                      refine zw_43 zr_103_104 rfl ?_
                      refine zw_46l zr_103_105 ef23 rfl rfl rfl ?_
                      refine zw_6 zr_103_108 rfl ?_
                      refine zw_32h zr_103_110 ?_
                      intro x28 hx28a hx28b
                      refine zw_47 (c := 1) zr_103_111 rfl ⟨rfl, by decide, rfl⟩ ?_
                      intro m29 em29
                      have hIm29 : zInv m29 := by rw [em29]; exact hI0.anyl (by omega) (by decide) rfl (by decide) (by decide)
                      have hFm29 : zFr W_103 m0 m29 := by rw [em29]; exact hF0.up rfl
                      have km29_1_1 : m29 1 1 = f1 := by rw [em29, zUp_ne (by omega)]; exact ef1
                      have km29_1_3 : m29 1 3 = x28 := by rw [em29]; exact zUp_eq _ _ _ _
                      clear em29
                      refine zw_push zr_103_114 ?_
                      refine zw_R zr_103_115 (by decide) zm_103 (v := (0, 1)) rfl ?_
                      rw [← hQ]; exact ⟨_, rfl, by omega, by omega, hIm29, hFm29⟩
                    · intro h30; omega
                  · intro h31
                    refine zw_push zr_103_76 ?_
                    refine zw_R zr_103_78 (by decide) zm_103 (v := (0, (-3))) rfl ?_
                    rw [← hQ]; exact ⟨_, rfl, by omega, by omega, hI0, hF0⟩
                · intro h32
                  refine zw_push zr_103_67 ?_
                  refine zw_42 zr_103_68 ?_
                  refine zw_3 zr_103_72 rfl ?_
                  refine zw_41_4 zr_103_73 ?_ ?_
                  · intro h33
                    refine zw_3 zr_103_79 rfl ?_
                    refine zw_40_4 zr_103_80 ?_ ?_
                    · intro h34
                      refine zw_7 zr_103_100 rfl ?_
                      refine zw_46r (s := 1) zr_103_101 rfl rfl rfl rfl ?_
                      refine zw_43 zr_103_104 rfl ?_
                      refine zw_46l zr_103_105 ef23 rfl rfl rfl ?_
                      refine zw_6 zr_103_108 rfl ?_
                      refine zw_32h zr_103_110 ?_
                      intro x35 hx35a hx35b
                      refine zw_47 (c := 1) zr_103_111 rfl ⟨rfl, by decide, rfl⟩ ?_
                      intro m36 em36
                      have hIm36 : zInv m36 := by rw [em36]; exact hI0.anyl (by omega) (by decide) rfl (by decide) (by decide)
                      have hFm36 : zFr W_103 m0 m36 := by rw [em36]; exact hF0.up rfl
                      have km36_1_1 : m36 1 1 = f1 := by rw [em36, zUp_ne (by omega)]; exact ef1
                      have km36_1_3 : m36 1 3 = x35 := by rw [em36]; exact zUp_eq _ _ _ _
                      clear em36
                      refine zw_push zr_103_114 ?_
                      refine zw_R zr_103_115 (by decide) zm_103 (v := (0, 1)) rfl ?_
                      rw [← hQ]; exact ⟨_, rfl, by omega, by omega, hIm36, hFm36⟩
                    · intro h37; omega
                  · intro h38
                    refine zw_push zr_103_76 ?_
                    refine zw_R zr_103_78 (by decide) zm_103 (v := (0, (-3))) rfl ?_
                    rw [← hQ]; exact ⟨_, rfl, by omega, by omega, hI0, hF0⟩
              · intro h39
                refine zw_7 zr_103_38 rfl ?_
                refine zw_46r (s := 1) zr_103_39 rfl rfl rfl rfl ?_
                obtain ⟨f40, ef40⟩ : ∃ v, m0 1 2 = v := ⟨_, rfl⟩
                have bf40 := hI0.fl (c := 1) (k := 2) rfl
                rw [ef40] at bf40
                refine zw_46l zr_103_42 ef40 rfl rfl rfl ?_
                refine zw_42 zr_103_45 ?_
                refine zw_14 (L' := [(2, 0), (0, a0), (0, a1), (0, a2), (1, x21), (9, 0), (1, f40), (9, 0)]) zr_103_55 (Nat.le_of_ble_eq_true rfl) rfl ?_
                refine zw_6 zr_103_57 rfl ?_
                refine zw_6 zr_103_59 rfl ?_
                refine zw_30h zr_103_61 ?_
                intro x41 hx41a hx41b
                refine zw_push zr_103_62 ?_
                refine zw_39_1 zr_103_63 zr_103_64 ?_ ?_
                · intro h42
                  refine zw_push zr_103_71 ?_
                  refine zw_3 zr_103_72 rfl ?_
                  refine zw_41_4 zr_103_73 ?_ ?_
                  · intro h43
                    refine zw_3 zr_103_79 rfl ?_
                    refine zw_40_4 zr_103_80 ?_ ?_
                    · intro h44; omega
                    · intro h45
                      refine zw_7 zr_103_83 rfl ?_
                      refine zw_46r (s := 1) zr_103_84 rfl rfl rfl rfl ?_
                      refine zw_43 zr_103_87 rfl ?_
                      refine zw_46l zr_103_88 ef40 rfl rfl rfl ?_
                      refine zw_6 zr_103_91 rfl ?_
                      refine zw_32h zr_103_93 ?_
                      intro x46 hx46a hx46b
                      refine zw_47 (c := 1) zr_103_94 rfl ⟨rfl, by decide, rfl⟩ ?_
                      intro m47 em47
                      have hIm47 : zInv m47 := by rw [em47]; exact hI0.anyl (by omega) (by decide) rfl (by decide) (by decide)
                      have hFm47 : zFr W_103 m0 m47 := by rw [em47]; exact hF0.up rfl
                      have km47_1_1 : m47 1 1 = f1 := by rw [em47, zUp_ne (by omega)]; exact ef1
                      have km47_1_2 : m47 1 2 = x46 := by rw [em47]; exact zUp_eq _ _ _ _
                      clear em47
                      refine zw_42 zr_103_97 ?_
                      refine zw_push zr_103_114 ?_
                      refine zw_R zr_103_115 (by decide) zm_103 (v := (0, 1)) rfl ?_
                      rw [← hQ]; exact ⟨_, rfl, by omega, by omega, hIm47, hFm47⟩
                  · intro h48
                    refine zw_push zr_103_76 ?_
                    refine zw_R zr_103_78 (by decide) zm_103 (v := (0, (-3))) rfl ?_
                    rw [← hQ]; exact ⟨_, rfl, by omega, by omega, hI0, hF0⟩
                · intro h49
                  refine zw_push zr_103_67 ?_
                  refine zw_42 zr_103_68 ?_
                  refine zw_3 zr_103_72 rfl ?_
                  refine zw_41_4 zr_103_73 ?_ ?_
                  · intro h50
                    refine zw_3 zr_103_79 rfl ?_
                    refine zw_40_4 zr_103_80 ?_ ?_
                    · intro h51; omega
                    · intro h52
                      refine zw_7 zr_103_83 rfl ?_
                      refine zw_46r (s := 1) zr_103_84 rfl rfl rfl rfl ?_
                      refine zw_43 zr_103_87 rfl ?_
                      refine zw_46l zr_103_88 ef40 rfl rfl rfl ?_
                      refine zw_6 zr_103_91 rfl ?_
                      refine zw_32h zr_103_93 ?_
                      intro x53 hx53a hx53b
                      refine zw_47 (c := 1) zr_103_94 rfl ⟨rfl, by decide, rfl⟩ ?_
                      intro m54 em54
                      have hIm54 : zInv m54 := by rw [em54]; exact hI0.anyl (by omega) (by decide) rfl (by decide) (by decide)
                      have hFm54 : zFr W_103 m0 m54 := by rw [em54]; exact hF0.up rfl
                      have km54_1_1 : m54 1 1 = f1 := by rw [em54, zUp_ne (by omega)]; exact ef1
                      have km54_1_2 : m54 1 2 = x53 := by rw [em54]; exact zUp_eq _ _ _ _
                      clear em54
                      refine zw_42 zr_103_97 ?_
                      refine zw_push zr_103_114 ?_
                      refine zw_R zr_103_115 (by decide) zm_103 (v := (0, 1)) rfl ?_
                      rw [← hQ]; exact ⟨_, rfl, by omega, by omega, hIm54, hFm54⟩
                  · intro h55
                    refine zw_push zr_103_76 ?_
                    refine zw_R zr_103_78 (by decide) zm_103 (v := (0, (-3))) rfl ?_
                    rw [← hQ]; exact ⟨_, rfl, by omega, by omega, hI0, hF0⟩
            · intro h56; omega

abbrev W_147 : List (Nat × Nat) := [(70, 1000)]
set_option maxHeartbeats 8000000 in
theorem th_147 {E : zE} {d : Nat} {m0 : zM} {a0 : Int} {a1 : Int} {a2 : Int} (hd : 2 ≤ d) (hI0 : zInv m0) (ha0 : (-2147483648) ≤ a0 ∧ a0 ≤ 2147483647) (ha1 : (-2147483648) ≤ a1 ∧ a1 ≤ 2147483647) (ha2 : 0 ≤ a2 ∧ a2 ≤ 1) : zC E d 147 [(2, 69), (0, a0), (0, a1), (0, a2)] m0 (fun v m' => ∃ r : Int, v = (0, r) ∧ (-3) ≤ r ∧ r ≤ 1 ∧ zInv m' ∧ zFr W_147 m0 m') := by
  have hF0 : zFr W_147 m0 m0 := zFr.rfl
  generalize hQ : (fun (v : zV) (m' : zM) => ∃ r : Int, v = (0, r) ∧ (-3) ≤ r ∧ r ≤ 1 ∧ zInv m' ∧ zFr W_147 m0 m') = Q
  show zW E d 147 0 [(2, 69), (0, a0), (0, a1), (0, a2)] [] m0 Q
  refine zw_3 zr_147_0 rfl ?_
  refine zw_36 zr_147_1 ?_
  refine zw_push zr_147_2 ?_
  refine zw_7 zr_147_3 rfl ?_
  refine zw_C zr_147_4 (Or.inl rfl) zm_142 rfl rfl ⟨Nat.le_of_ble_eq_true rfl, Nat.le_of_ble_eq_true rfl, Nat.le_of_ble_eq_true rfl, rfl, by decide⟩ (by omega) (P := (fun v m' => zW E (d) 147 7 [(2, 69), (0, a0), (0, a1), (0, a2)] (if v.1 = 9 then [(1, 0), (1, a0)] else v :: [(1, 0), (1, a0)]) m' Q)) ?_ (fun _ _ h => h)
  generalize hQ1 : (fun v m' => zW E (d) 147 7 [(2, 69), (0, a0), (0, a1), (0, a2)] (if v.1 = 9 then [(1, 0), (1, a0)] else v :: [(1, 0), (1, a0)]) m' Q) = Q1
  show zW E (d - 1) 142 0 [(2, 69)] [] m0 Q1
  refine zw_7 zr_142_0 rfl ?_
  refine zw_46r (s := 70) zr_142_1 rfl rfl rfl rfl ?_
  refine zw_push zr_142_4 ?_
  obtain ⟨f1, ef1⟩ : ∃ v, m0 70 823 = v := ⟨_, rfl⟩
  have bf1 : 0 ≤ m0 70 823 ∧ m0 70 823 ≤ 60 := ib_70_meetings hI0 (by omega)
  rw [ef1] at bf1
  refine zw_48k (c := 70) (len := 826) zr_142_7 rfl rfl (by omega) (by omega) (show (823 : Int).toNat = 823 by omega) ef1 ?_
  refine zw_R zr_142_8 (by decide) zm_142 (v := (0, f1)) rfl ?_
  rw [← hQ1]
  show zW E (d) 147 7 [(2, 69), (0, a0), (0, a1), (0, a2)] [(0, f1), (1, 0), (1, a0)] m0 Q
  refine zw_push zr_147_7 ?_
  refine zw_17 zr_147_8 (by omega) ?_
  refine zw_36 zr_147_9 ?_
  refine zw_C zr_147_10 (Or.inr rfl) zm_140 rfl rfl ⟨Nat.le_of_ble_eq_true rfl, Nat.le_of_ble_eq_true rfl, Nat.le_of_ble_eq_true rfl, rfl, by decide⟩ (by omega) (P := (fun v m' => zW E (d) 147 13 [(2, 69), (0, a0), (0, a1), (0, a2)] (if v.1 = 9 then [] else v :: []) m' Q)) ?_ (fun _ _ h => h)
  generalize hQ1 : (fun v m' => zW E (d) 147 13 [(2, 69), (0, a0), (0, a1), (0, a2)] (if v.1 = 9 then [] else v :: []) m' Q) = Q1
  show zW E (d - 1) 140 0 [(1, a0), (9, 0), (1, 0), (9, 0), (1, (f1 - 1)), (9, 0)] [] m0 Q1
  refine zw_5 zr_140_0 rfl ?_
  refine zw_5 zr_140_1 rfl ?_
  refine zw_39_0 zr_140_2 zr_140_3 ?_ ?_
  · intro h2
    refine zw_push zr_140_17 ?_
    refine zw_R zr_140_18 (by decide) zm_140 (v := (0, 0)) (zRetB (by omega)) ?_
    rw [← hQ1]
    show zW E (d) 147 13 [(2, 69), (0, a0), (0, a1), (0, a2)] [(0, 0)] m0 Q
    refine zw_40_1 zr_147_13 ?_ ?_
    · intro h3
      refine zw_push zr_147_26 ?_
      refine zw_R zr_147_28 (by decide) zm_147 (v := (0, (-2))) rfl ?_
      rw [← hQ]; exact ⟨_, rfl, by omega, by omega, hI0, hF0⟩
    · intro h4; omega
  · intro h5
    refine zw_5 zr_140_6 rfl ?_
    refine zw_6 zr_140_7 rfl ?_
    refine zw_39_2 zr_140_9 zr_140_10 ?_ ?_
    · intro h6
      refine zw_push zr_140_17 ?_
      refine zw_R zr_140_18 (by decide) zm_140 (v := (0, 0)) (zRetB (by omega)) ?_
      rw [← hQ1]
      show zW E (d) 147 13 [(2, 69), (0, a0), (0, a1), (0, a2)] [(0, 0)] m0 Q
      refine zw_40_1 zr_147_13 ?_ ?_
      · intro h7
        refine zw_push zr_147_26 ?_
        refine zw_R zr_147_28 (by decide) zm_147 (v := (0, (-2))) rfl ?_
        rw [← hQ]; exact ⟨_, rfl, by omega, by omega, hI0, hF0⟩
      · intro h8; omega
    · intro h9
      refine zw_push zr_140_13 ?_
      refine zw_42 zr_140_14 ?_
      refine zw_R zr_140_18 (by decide) zm_140 (v := (0, 1)) (zRetB (by omega)) ?_
      rw [← hQ1]
      show zW E (d) 147 13 [(2, 69), (0, a0), (0, a1), (0, a2)] [(0, 1)] m0 Q
      refine zw_40_1 zr_147_13 ?_ ?_
      · intro h10; omega
      · intro h11
        refine zw_3 zr_147_16 rfl ?_
        refine zw_36 zr_147_17 ?_
        refine zw_push zr_147_18 ?_
        refine zw_push zr_147_19 ?_
        refine zw_C zr_147_20 (Or.inr rfl) zm_140 rfl rfl ⟨Nat.le_of_ble_eq_true rfl, Nat.le_of_ble_eq_true rfl, Nat.le_of_ble_eq_true rfl, rfl, by decide⟩ (by omega) (P := (fun v m' => zW E (d) 147 23 [(2, 69), (0, a0), (0, a1), (0, a2)] (if v.1 = 9 then [] else v :: []) m' Q)) ?_ (fun _ _ h => h)
        generalize hQ1 : (fun v m' => zW E (d) 147 23 [(2, 69), (0, a0), (0, a1), (0, a2)] (if v.1 = 9 then [] else v :: []) m' Q) = Q1
        show zW E (d - 1) 140 0 [(1, a1), (9, 0), (1, 0), (9, 0), (1, 1), (9, 0)] [] m0 Q1
        refine zw_5 zr_140_0 rfl ?_
        refine zw_5 zr_140_1 rfl ?_
        refine zw_39_0 zr_140_2 zr_140_3 ?_ ?_
        · intro h12
          refine zw_push zr_140_17 ?_
          refine zw_R zr_140_18 (by decide) zm_140 (v := (0, 0)) (zRetB (by omega)) ?_
          rw [← hQ1]
          show zW E (d) 147 23 [(2, 69), (0, a0), (0, a1), (0, a2)] [(0, 0)] m0 Q
          refine zw_40_4 zr_147_23 ?_ ?_
          · intro h13; omega
          · intro h14
            refine zw_push zr_147_26 ?_
            refine zw_R zr_147_28 (by decide) zm_147 (v := (0, (-2))) rfl ?_
            rw [← hQ]; exact ⟨_, rfl, by omega, by omega, hI0, hF0⟩
        · intro h15
          refine zw_5 zr_140_6 rfl ?_
          refine zw_6 zr_140_7 rfl ?_
          refine zw_39_2 zr_140_9 zr_140_10 ?_ ?_
          · intro h16
            refine zw_push zr_140_17 ?_
            refine zw_R zr_140_18 (by decide) zm_140 (v := (0, 0)) (zRetB (by omega)) ?_
            rw [← hQ1]
            show zW E (d) 147 23 [(2, 69), (0, a0), (0, a1), (0, a2)] [(0, 0)] m0 Q
            refine zw_40_4 zr_147_23 ?_ ?_
            · intro h17; omega
            · intro h18
              refine zw_push zr_147_26 ?_
              refine zw_R zr_147_28 (by decide) zm_147 (v := (0, (-2))) rfl ?_
              rw [← hQ]; exact ⟨_, rfl, by omega, by omega, hI0, hF0⟩
          · intro h19
            refine zw_push zr_140_13 ?_
            refine zw_42 zr_140_14 ?_
            refine zw_R zr_140_18 (by decide) zm_140 (v := (0, 1)) (zRetB (by omega)) ?_
            rw [← hQ1]
            show zW E (d) 147 23 [(2, 69), (0, a0), (0, a1), (0, a2)] [(0, 1)] m0 Q
            refine zw_40_4 zr_147_23 ?_ ?_
            · intro h20
              refine zw_7 zr_147_29 rfl ?_
              refine zw_3 zr_147_30 rfl ?_
              refine zw_push zr_147_31 ?_
              refine zw_3 zr_147_32 rfl ?_
              refine zw_16 zr_147_33 (by omega) ?_
              refine zw_C zr_147_34 (Or.inl rfl) zm_144 rfl rfl ⟨Nat.le_of_ble_eq_true rfl, Nat.le_of_ble_eq_true rfl, Nat.le_of_ble_eq_true rfl, rfl, by decide⟩ (by omega) (P := (fun v m' => zW E (d) 147 37 [(2, 69), (0, a0), (0, a1), (0, a2)] (if v.1 = 9 then [] else v :: []) m' Q)) ?_ (fun _ _ h => h)
              generalize hQ1 : (fun v m' => zW E (d) 147 37 [(2, 69), (0, a0), (0, a1), (0, a2)] (if v.1 = 9 then [] else v :: []) m' Q) = Q1
              show zW E (d - 1) 144 0 [(2, 69), (0, a0), (0, (4 + a1))] [] m0 Q1
              refine zw_7 zr_144_0 rfl ?_
              refine zw_46r (s := 70) zr_144_1 rfl rfl rfl rfl ?_
              refine zw_push zr_144_4 ?_
              refine zw_push zr_144_6 ?_
              refine zw_3 zr_144_8 rfl ?_
              refine zw_18 zr_144_9 (by omega) ?_
              refine zw_16 zr_144_10 (by omega) ?_
              refine zw_3 zr_144_11 rfl ?_
              refine zw_16 zr_144_12 (by omega) ?_
              refine zw_48 (c := 70) (len := 826) zr_144_13 rfl rfl (by omega) (by omega) ?_
              intro x21 ex21
              have bx21 := ib_70_m45 hI0 (k := (((90 + (6 * a0)) + (4 + a1))).toNat) (by omega)
              rw [← ex21] at bx21
              clear ex21
              refine zw_R zr_144_14 (by decide) zm_144 (v := (0, x21)) rfl ?_
              rw [← hQ1]
              show zW E (d) 147 37 [(2, 69), (0, a0), (0, a1), (0, a2)] [(0, x21)] m0 Q
              refine zw_push zr_147_37 ?_
              refine zw_41_4 zr_147_38 ?_ ?_
              · intro h22
                refine zw_push zr_147_45 ?_
                refine zw_3 zr_147_46 rfl ?_
                refine zw_41_4 zr_147_47 ?_ ?_
                · intro h23
                  refine zw_7 zr_147_53 rfl ?_
                  refine zw_46r (s := 70) zr_147_54 rfl rfl rfl rfl ?_
                  refine zw_push zr_147_57 ?_
                  refine zw_push zr_147_59 ?_
                  refine zw_3 zr_147_61 rfl ?_
                  refine zw_18 zr_147_62 (by omega) ?_
                  refine zw_16 zr_147_63 (by omega) ?_
                  refine zw_push zr_147_64 ?_
                  refine zw_16 zr_147_65 (by omega) ?_
                  refine zw_3 zr_147_66 rfl ?_
                  refine zw_16 zr_147_67 (by omega) ?_
                  refine zw_3 zr_147_68 rfl ?_
                  refine zw_40_1 zr_147_69 ?_ ?_
                  · intro h24; omega
                  · intro h25
                    refine zw_push zr_147_72 ?_
                    refine zw_42 zr_147_73 ?_
                    refine zw_49 (c := 70) (len := 826) zr_147_77 rfl rfl (by omega) (by omega) ?_
                    intro m26 em26
                    have hIm26 : zInv m26 := by rw [em26]; exact iu_70_m45 hI0 (by omega) (by omega)
                    have hFm26 : zFr W_147 m0 m26 := by rw [em26]; exact hF0.any rfl
                    have km26_70_823 : m26 70 823 = f1 := by rw [em26, zUp_ne (by omega)]; exact ef1
                    clear em26
                    refine zw_push zr_147_78 ?_
                    refine zw_R zr_147_79 (by decide) zm_147 (v := (0, 1)) rfl ?_
                    rw [← hQ]; exact ⟨_, rfl, by omega, by omega, hIm26, hFm26⟩
                · intro h27
                  refine zw_push zr_147_50 ?_
                  refine zw_R zr_147_52 (by decide) zm_147 (v := (0, (-3))) rfl ?_
                  rw [← hQ]; exact ⟨_, rfl, by omega, by omega, hI0, hF0⟩
              · intro h28
                refine zw_push zr_147_41 ?_
                refine zw_42 zr_147_42 ?_
                refine zw_3 zr_147_46 rfl ?_
                refine zw_41_4 zr_147_47 ?_ ?_
                · intro h29
                  refine zw_7 zr_147_53 rfl ?_
                  refine zw_46r (s := 70) zr_147_54 rfl rfl rfl rfl ?_
                  refine zw_push zr_147_57 ?_
                  refine zw_push zr_147_59 ?_
                  refine zw_3 zr_147_61 rfl ?_
                  refine zw_18 zr_147_62 (by omega) ?_
                  refine zw_16 zr_147_63 (by omega) ?_
                  refine zw_push zr_147_64 ?_
                  refine zw_16 zr_147_65 (by omega) ?_
                  refine zw_3 zr_147_66 rfl ?_
                  refine zw_16 zr_147_67 (by omega) ?_
                  refine zw_3 zr_147_68 rfl ?_
                  refine zw_40_1 zr_147_69 ?_ ?_
                  · intro h30
                    refine zw_push zr_147_76 ?_
                    refine zw_49 (c := 70) (len := 826) zr_147_77 rfl rfl (by omega) (by omega) ?_
                    intro m31 em31
                    have hIm31 : zInv m31 := by rw [em31]; exact iu_70_m45 hI0 (by omega) (by omega)
                    have hFm31 : zFr W_147 m0 m31 := by rw [em31]; exact hF0.any rfl
                    have km31_70_823 : m31 70 823 = f1 := by rw [em31, zUp_ne (by omega)]; exact ef1
                    clear em31
                    refine zw_push zr_147_78 ?_
                    refine zw_R zr_147_79 (by decide) zm_147 (v := (0, 1)) rfl ?_
                    rw [← hQ]; exact ⟨_, rfl, by omega, by omega, hIm31, hFm31⟩
                  · intro h32; omega
                · intro h33
                  refine zw_push zr_147_50 ?_
                  refine zw_R zr_147_52 (by decide) zm_147 (v := (0, (-3))) rfl ?_
                  rw [← hQ]; exact ⟨_, rfl, by omega, by omega, hI0, hF0⟩
            · intro h34; omega

abbrev W_105 : List (Nat × Nat) := [(9, 1000)]
set_option maxHeartbeats 8000000 in
theorem th_105 {E : zE} {d : Nat} {m0 : zM} {a0 : Int} {a1 : Int} (hd : 3 ≤ d) (hI0 : zInv m0) (ha0 : (-2147483648) ≤ a0 ∧ a0 ≤ 2147483647) (ha1 : (-2147483648) ≤ a1 ∧ a1 ≤ 2147483647) : zC E d 105 [(2, 0), (0, a0), (0, a1)] m0 (fun v m' => ∃ r : Int, v = (0, r) ∧ (-2) ≤ r ∧ r ≤ 9999 ∧ zInv m' ∧ zFr W_105 m0 m') := by
  have hF0 : zFr W_105 m0 m0 := zFr.rfl
  generalize hQ : (fun (v : zV) (m' : zM) => ∃ r : Int, v = (0, r) ∧ (-2) ≤ r ∧ r ≤ 9999 ∧ zInv m' ∧ zFr W_105 m0 m') = Q
  show zW E d 105 0 [(2, 0), (0, a0), (0, a1), (9, 0)] [] m0 Q
  refine zw_3 zr_105_0 rfl ?_
  refine zw_C zr_105_1 (Or.inr rfl) zm_104 rfl rfl ⟨Nat.le_of_ble_eq_true rfl, Nat.le_of_ble_eq_true rfl, Nat.le_of_ble_eq_true rfl, rfl, by decide⟩ (by omega) (P := (fun v m' => zW E (d) 105 4 [(2, 0), (0, a0), (0, a1), (9, 0)] (if v.1 = 9 then [] else v :: []) m' Q)) ?_ (fun _ _ h => h)
  generalize hQ1 : (fun v m' => zW E (d) 105 4 [(2, 0), (0, a0), (0, a1), (9, 0)] (if v.1 = 9 then [] else v :: []) m' Q) = Q1
  show zW E (d - 1) 104 0 [(0, a0)] [] m0 Q1
  refine zw_3 zr_104_0 rfl ?_
  refine zw_push zr_104_1 ?_
  refine zw_push zr_104_2 ?_
  refine zw_C zr_104_3 (Or.inr rfl) zm_100 rfl rfl ⟨Nat.le_of_ble_eq_true rfl, Nat.le_of_ble_eq_true rfl, Nat.le_of_ble_eq_true rfl, rfl, by decide⟩ (by omega) (P := (fun v m' => zW E (d - 1) 104 6 [(0, a0)] (if v.1 = 9 then [] else v :: []) m' Q1)) ?_ (fun _ _ h => h)
  generalize hQ2 : (fun v m' => zW E (d - 1) 104 6 [(0, a0)] (if v.1 = 9 then [] else v :: []) m' Q1) = Q2
  show zW E (d - 1 - 1) 100 0 [(0, a0), (0, 0), (0, 3)] [] m0 Q2
  refine zw_3 zr_100_0 rfl ?_
  refine zw_3 zr_100_1 rfl ?_
  refine zw_41_0 zr_100_2 ?_ ?_
  · intro h1
    refine zw_push zr_100_14 ?_
    refine zw_R zr_100_15 (by decide) zm_100 (v := (0, 0)) (zRetB (by omega)) ?_
    rw [← hQ2]
    show zW E (d - 1) 104 6 [(0, a0)] [(0, 0)] m0 Q1
    refine zw_R zr_104_6 (by decide) zm_104 (v := (0, 0)) (zRetB (by omega)) ?_
    rw [← hQ1]
    show zW E (d) 105 4 [(2, 0), (0, a0), (0, a1), (9, 0)] [(0, 0)] m0 Q
    refine zw_40_1 zr_105_4 ?_ ?_
    · intro h2
      refine zw_push zr_105_18 ?_
      refine zw_R zr_105_20 (by decide) zm_105 (v := (0, (-2))) rfl ?_
      rw [← hQ]; exact ⟨_, rfl, by omega, by omega, hI0, hF0⟩
    · intro h3; omega
  · intro h4
    refine zw_3 zr_100_5 rfl ?_
    refine zw_3 zr_100_6 rfl ?_
    refine zw_41_2 zr_100_7 ?_ ?_
    · intro h5
      refine zw_push zr_100_14 ?_
      refine zw_R zr_100_15 (by decide) zm_100 (v := (0, 0)) (zRetB (by omega)) ?_
      rw [← hQ2]
      show zW E (d - 1) 104 6 [(0, a0)] [(0, 0)] m0 Q1
      refine zw_R zr_104_6 (by decide) zm_104 (v := (0, 0)) (zRetB (by omega)) ?_
      rw [← hQ1]
      show zW E (d) 105 4 [(2, 0), (0, a0), (0, a1), (9, 0)] [(0, 0)] m0 Q
      refine zw_40_1 zr_105_4 ?_ ?_
      · intro h6
        refine zw_push zr_105_18 ?_
        refine zw_R zr_105_20 (by decide) zm_105 (v := (0, (-2))) rfl ?_
        rw [← hQ]; exact ⟨_, rfl, by omega, by omega, hI0, hF0⟩
      · intro h7; omega
    · intro h8
      refine zw_push zr_100_10 ?_
      refine zw_42 zr_100_11 ?_
      refine zw_R zr_100_15 (by decide) zm_100 (v := (0, 1)) (zRetB (by omega)) ?_
      rw [← hQ2]
      show zW E (d - 1) 104 6 [(0, a0)] [(0, 1)] m0 Q1
      refine zw_R zr_104_6 (by decide) zm_104 (v := (0, 1)) (zRetB (by omega)) ?_
      rw [← hQ1]
      show zW E (d) 105 4 [(2, 0), (0, a0), (0, a1), (9, 0)] [(0, 1)] m0 Q
      refine zw_40_1 zr_105_4 ?_ ?_
      · intro h9; omega
      · intro h10
        refine zw_3 zr_105_7 rfl ?_
        refine zw_push zr_105_8 ?_
        refine zw_push zr_105_9 ?_
        refine zw_C zr_105_12 (Or.inr rfl) zm_100 rfl rfl ⟨Nat.le_of_ble_eq_true rfl, Nat.le_of_ble_eq_true rfl, Nat.le_of_ble_eq_true rfl, rfl, by decide⟩ (by omega) (P := (fun v m' => zW E (d) 105 15 [(2, 0), (0, a0), (0, a1), (9, 0)] (if v.1 = 9 then [] else v :: []) m' Q)) ?_ (fun _ _ h => h)
        generalize hQ1 : (fun v m' => zW E (d) 105 15 [(2, 0), (0, a0), (0, a1), (9, 0)] (if v.1 = 9 then [] else v :: []) m' Q) = Q1
        show zW E (d - 1) 100 0 [(0, a1), (0, 0), (0, 9999)] [] m0 Q1
        refine zw_3 zr_100_0 rfl ?_
        refine zw_3 zr_100_1 rfl ?_
        refine zw_41_0 zr_100_2 ?_ ?_
        · intro h11
          refine zw_push zr_100_14 ?_
          refine zw_R zr_100_15 (by decide) zm_100 (v := (0, 0)) (zRetB (by omega)) ?_
          rw [← hQ1]
          show zW E (d) 105 15 [(2, 0), (0, a0), (0, a1), (9, 0)] [(0, 0)] m0 Q
          refine zw_40_4 zr_105_15 ?_ ?_
          · intro h12; omega
          · intro h13
            refine zw_push zr_105_18 ?_
            refine zw_R zr_105_20 (by decide) zm_105 (v := (0, (-2))) rfl ?_
            rw [← hQ]; exact ⟨_, rfl, by omega, by omega, hI0, hF0⟩
        · intro h14
          refine zw_3 zr_100_5 rfl ?_
          refine zw_3 zr_100_6 rfl ?_
          refine zw_41_2 zr_100_7 ?_ ?_
          · intro h15
            refine zw_push zr_100_14 ?_
            refine zw_R zr_100_15 (by decide) zm_100 (v := (0, 0)) (zRetB (by omega)) ?_
            rw [← hQ1]
            show zW E (d) 105 15 [(2, 0), (0, a0), (0, a1), (9, 0)] [(0, 0)] m0 Q
            refine zw_40_4 zr_105_15 ?_ ?_
            · intro h16; omega
            · intro h17
              refine zw_push zr_105_18 ?_
              refine zw_R zr_105_20 (by decide) zm_105 (v := (0, (-2))) rfl ?_
              rw [← hQ]; exact ⟨_, rfl, by omega, by omega, hI0, hF0⟩
          · intro h18
            refine zw_push zr_100_10 ?_
            refine zw_42 zr_100_11 ?_
            refine zw_R zr_100_15 (by decide) zm_100 (v := (0, 1)) (zRetB (by omega)) ?_
            rw [← hQ1]
            show zW E (d) 105 15 [(2, 0), (0, a0), (0, a1), (9, 0)] [(0, 1)] m0 Q
            refine zw_40_4 zr_105_15 ?_ ?_
            · intro h19
              refine zw_7 zr_105_21 rfl ?_
              refine zw_46r (s := 1) zr_105_22 rfl rfl rfl rfl ?_
              refine zw_46r (s := 9) zr_105_25 rfl rfl rfl rfl ?_
              refine zw_3 zr_105_28 rfl ?_
              refine zw_48 (c := 9) (len := 4) zr_105_29 rfl rfl (by omega) (by omega) ?_
              intro x20 ex20
              have bx20 := ib_9 hI0 (k := (a0).toNat) (by omega)
              rw [← ex20] at bx20
              clear ex20
              refine zw_9 (L' := [(2, 0), (0, a0), (0, a1), (0, x20)]) zr_105_30 (Nat.le_of_ble_eq_true rfl) rfl ?_
              refine zw_7 zr_105_31 rfl ?_
              refine zw_46r (s := 1) zr_105_32 rfl rfl rfl rfl ?_
              refine zw_46r (s := 9) zr_105_35 rfl rfl rfl rfl ?_
              refine zw_3 zr_105_38 rfl ?_
              refine zw_3 zr_105_39 rfl ?_
              refine zw_49 (c := 9) (len := 4) zr_105_40 rfl rfl (by omega) (by omega) ?_
              intro m21 em21
              have hIm21 : zInv m21 := by rw [em21]; exact iu_9 hI0 (by omega)
              have hFm21 : zFr W_105 m0 m21 := by rw [em21]; exact hF0.any rfl
              clear em21
              refine zw_3 zr_105_41 rfl ?_
              refine zw_R zr_105_42 (by decide) zm_105 (v := (0, x20)) rfl ?_
              rw [← hQ]; exact ⟨_, rfl, by omega, by omega, hIm21, hFm21⟩
            · intro h22; omega

abbrev W_149 : List (Nat × Nat) := [(70, 1000)]
set_option maxHeartbeats 8000000 in
theorem th_149 {E : zE} {d : Nat} {m0 : zM} {a0 : Int} {a1 : Int} (hd : 3 ≤ d) (hI0 : zInv m0) (ha0 : (-2147483648) ≤ a0 ∧ a0 ≤ 2147483647) (ha1 : (-2147483648) ≤ a1 ∧ a1 ≤ 2147483647) : zC E d 149 [(2, 69), (0, a0), (0, a1)] m0 (fun v m' => ∃ r : Int, v = (0, r) ∧ (-2) ≤ r ∧ r ≤ 9999 ∧ zInv m' ∧ zFr W_149 m0 m') := by
  have hF0 : zFr W_149 m0 m0 := zFr.rfl
  generalize hQ : (fun (v : zV) (m' : zM) => ∃ r : Int, v = (0, r) ∧ (-2) ≤ r ∧ r ≤ 9999 ∧ zInv m' ∧ zFr W_149 m0 m') = Q
  show zW E d 149 0 [(2, 69), (0, a0), (0, a1), (9, 0)] [] m0 Q
  refine zw_3 zr_149_0 rfl ?_
  refine zw_C zr_149_1 (Or.inr rfl) zm_148 rfl rfl ⟨Nat.le_of_ble_eq_true rfl, Nat.le_of_ble_eq_true rfl, Nat.le_of_ble_eq_true rfl, rfl, by decide⟩ (by omega) (P := (fun v m' => zW E (d) 149 4 [(2, 69), (0, a0), (0, a1), (9, 0)] (if v.1 = 9 then [] else v :: []) m' Q)) ?_ (fun _ _ h => h)
  generalize hQ1 : (fun v m' => zW E (d) 149 4 [(2, 69), (0, a0), (0, a1), (9, 0)] (if v.1 = 9 then [] else v :: []) m' Q) = Q1
  show zW E (d - 1) 148 0 [(0, a0)] [] m0 Q1
  refine zw_3 zr_148_0 rfl ?_
  refine zw_36 zr_148_1 ?_
  refine zw_push zr_148_2 ?_
  refine zw_push zr_148_3 ?_
  refine zw_C zr_148_6 (Or.inr rfl) zm_140 rfl rfl ⟨Nat.le_of_ble_eq_true rfl, Nat.le_of_ble_eq_true rfl, Nat.le_of_ble_eq_true rfl, rfl, by decide⟩ (by omega) (P := (fun v m' => zW E (d - 1) 148 9 [(0, a0)] (if v.1 = 9 then [] else v :: []) m' Q1)) ?_ (fun _ _ h => h)
  generalize hQ2 : (fun v m' => zW E (d - 1) 148 9 [(0, a0)] (if v.1 = 9 then [] else v :: []) m' Q1) = Q2
  show zW E (d - 1 - 1) 140 0 [(1, a0), (9, 0), (1, 0), (9, 0), (1, 3), (9, 0)] [] m0 Q2
  refine zw_5 zr_140_0 rfl ?_
  refine zw_5 zr_140_1 rfl ?_
  refine zw_39_0 zr_140_2 zr_140_3 ?_ ?_
  · intro h1
    refine zw_push zr_140_17 ?_
    refine zw_R zr_140_18 (by decide) zm_140 (v := (0, 0)) (zRetB (by omega)) ?_
    rw [← hQ2]
    show zW E (d - 1) 148 9 [(0, a0)] [(0, 0)] m0 Q1
    refine zw_R zr_148_9 (by decide) zm_148 (v := (0, 0)) (zRetB (by omega)) ?_
    rw [← hQ1]
    show zW E (d) 149 4 [(2, 69), (0, a0), (0, a1), (9, 0)] [(0, 0)] m0 Q
    refine zw_40_1 zr_149_4 ?_ ?_
    · intro h2
      refine zw_push zr_149_19 ?_
      refine zw_R zr_149_21 (by decide) zm_149 (v := (0, (-2))) rfl ?_
      rw [← hQ]; exact ⟨_, rfl, by omega, by omega, hI0, hF0⟩
    · intro h3; omega
  · intro h4
    refine zw_5 zr_140_6 rfl ?_
    refine zw_6 zr_140_7 rfl ?_
    refine zw_39_2 zr_140_9 zr_140_10 ?_ ?_
    · intro h5
      refine zw_push zr_140_17 ?_
      refine zw_R zr_140_18 (by decide) zm_140 (v := (0, 0)) (zRetB (by omega)) ?_
      rw [← hQ2]
      show zW E (d - 1) 148 9 [(0, a0)] [(0, 0)] m0 Q1
      refine zw_R zr_148_9 (by decide) zm_148 (v := (0, 0)) (zRetB (by omega)) ?_
      rw [← hQ1]
      show zW E (d) 149 4 [(2, 69), (0, a0), (0, a1), (9, 0)] [(0, 0)] m0 Q
      refine zw_40_1 zr_149_4 ?_ ?_
      · intro h6
        refine zw_push zr_149_19 ?_
        refine zw_R zr_149_21 (by decide) zm_149 (v := (0, (-2))) rfl ?_
        rw [← hQ]; exact ⟨_, rfl, by omega, by omega, hI0, hF0⟩
      · intro h7; omega
    · intro h8
      refine zw_push zr_140_13 ?_
      refine zw_42 zr_140_14 ?_
      refine zw_R zr_140_18 (by decide) zm_140 (v := (0, 1)) (zRetB (by omega)) ?_
      rw [← hQ2]
      show zW E (d - 1) 148 9 [(0, a0)] [(0, 1)] m0 Q1
      refine zw_R zr_148_9 (by decide) zm_148 (v := (0, 1)) (zRetB (by omega)) ?_
      rw [← hQ1]
      show zW E (d) 149 4 [(2, 69), (0, a0), (0, a1), (9, 0)] [(0, 1)] m0 Q
      refine zw_40_1 zr_149_4 ?_ ?_
      · intro h9; omega
      · intro h10
        refine zw_3 zr_149_7 rfl ?_
        refine zw_36 zr_149_8 ?_
        refine zw_push zr_149_9 ?_
        refine zw_push zr_149_10 ?_
        refine zw_C zr_149_13 (Or.inr rfl) zm_140 rfl rfl ⟨Nat.le_of_ble_eq_true rfl, Nat.le_of_ble_eq_true rfl, Nat.le_of_ble_eq_true rfl, rfl, by decide⟩ (by omega) (P := (fun v m' => zW E (d) 149 16 [(2, 69), (0, a0), (0, a1), (9, 0)] (if v.1 = 9 then [] else v :: []) m' Q)) ?_ (fun _ _ h => h)
        generalize hQ1 : (fun v m' => zW E (d) 149 16 [(2, 69), (0, a0), (0, a1), (9, 0)] (if v.1 = 9 then [] else v :: []) m' Q) = Q1
        show zW E (d - 1) 140 0 [(1, a1), (9, 0), (1, 0), (9, 0), (1, 9999), (9, 0)] [] m0 Q1
        refine zw_5 zr_140_0 rfl ?_
        refine zw_5 zr_140_1 rfl ?_
        refine zw_39_0 zr_140_2 zr_140_3 ?_ ?_
        · intro h11
          refine zw_push zr_140_17 ?_
          refine zw_R zr_140_18 (by decide) zm_140 (v := (0, 0)) (zRetB (by omega)) ?_
          rw [← hQ1]
          show zW E (d) 149 16 [(2, 69), (0, a0), (0, a1), (9, 0)] [(0, 0)] m0 Q
          refine zw_40_4 zr_149_16 ?_ ?_
          · intro h12; omega
          · intro h13
            refine zw_push zr_149_19 ?_
            refine zw_R zr_149_21 (by decide) zm_149 (v := (0, (-2))) rfl ?_
            rw [← hQ]; exact ⟨_, rfl, by omega, by omega, hI0, hF0⟩
        · intro h14
          refine zw_5 zr_140_6 rfl ?_
          refine zw_6 zr_140_7 rfl ?_
          refine zw_39_2 zr_140_9 zr_140_10 ?_ ?_
          · intro h15
            refine zw_push zr_140_17 ?_
            refine zw_R zr_140_18 (by decide) zm_140 (v := (0, 0)) (zRetB (by omega)) ?_
            rw [← hQ1]
            show zW E (d) 149 16 [(2, 69), (0, a0), (0, a1), (9, 0)] [(0, 0)] m0 Q
            refine zw_40_4 zr_149_16 ?_ ?_
            · intro h16; omega
            · intro h17
              refine zw_push zr_149_19 ?_
              refine zw_R zr_149_21 (by decide) zm_149 (v := (0, (-2))) rfl ?_
              rw [← hQ]; exact ⟨_, rfl, by omega, by omega, hI0, hF0⟩
          · intro h18
            refine zw_push zr_140_13 ?_
            refine zw_42 zr_140_14 ?_
            refine zw_R zr_140_18 (by decide) zm_140 (v := (0, 1)) (zRetB (by omega)) ?_
            rw [← hQ1]
            show zW E (d) 149 16 [(2, 69), (0, a0), (0, a1), (9, 0)] [(0, 1)] m0 Q
            refine zw_40_4 zr_149_16 ?_ ?_
            · intro h19
              refine zw_7 zr_149_22 rfl ?_
              refine zw_46r (s := 70) zr_149_23 rfl rfl rfl rfl ?_
              refine zw_push zr_149_26 ?_
              refine zw_push zr_149_29 ?_
              refine zw_3 zr_149_31 rfl ?_
              refine zw_18 zr_149_32 (by omega) ?_
              refine zw_16 zr_149_33 (by omega) ?_
              refine zw_48 (c := 70) (len := 826) zr_149_34 rfl rfl (by omega) (by omega) ?_
              intro x20 ex20
              have bx20 := ib_70_s0 hI0 (k := ((450 + (52 * a0))).toNat) (by omega)
              rw [← ex20] at bx20
              clear ex20
              refine zw_9 (L' := [(2, 69), (0, a0), (0, a1), (0, x20)]) zr_149_35 (Nat.le_of_ble_eq_true rfl) rfl ?_
              refine zw_7 zr_149_36 rfl ?_
              refine zw_46r (s := 70) zr_149_37 rfl rfl rfl rfl ?_
              refine zw_push zr_149_40 ?_
              refine zw_push zr_149_43 ?_
              refine zw_3 zr_149_45 rfl ?_
              refine zw_18 zr_149_46 (by omega) ?_
              refine zw_16 zr_149_47 (by omega) ?_
              refine zw_3 zr_149_48 rfl ?_
              refine zw_49 (c := 70) (len := 826) zr_149_49 rfl rfl (by omega) (by omega) ?_
              intro m21 em21
              have hIm21 : zInv m21 := by rw [em21]; exact iu_70_s0 hI0 (by omega) (by omega)
              have hFm21 : zFr W_149 m0 m21 := by rw [em21]; exact hF0.any rfl
              clear em21
              refine zw_3 zr_149_50 rfl ?_
              refine zw_R zr_149_51 (by decide) zm_149 (v := (0, x20)) rfl ?_
              rw [← hQ]; exact ⟨_, rfl, by omega, by omega, hIm21, hFm21⟩
            · intro h22; omega

abbrev W_106 : List (Nat × Nat) := [(10, 1000), (11, 1000)]
set_option maxHeartbeats 8000000 in
theorem th_106 {E : zE} {d : Nat} {m0 : zM} {a0 : Int} {a1 : Int} (hd : 3 ≤ d) (hI0 : zInv m0) (ha0 : (-2147483648) ≤ a0 ∧ a0 ≤ 2147483647) (ha1 : (-2147483648) ≤ a1 ∧ a1 ≤ 2147483647) : zC E d 106 [(2, 0), (0, a0), (0, a1)] m0 (fun v m' => ∃ r : Int, v = (0, r) ∧ (-4) ≤ r ∧ r ≤ 50 ∧ zInv m' ∧ zFr W_106 m0 m') := by
  have hF0 : zFr W_106 m0 m0 := zFr.rfl
  generalize hQ : (fun (v : zV) (m' : zM) => ∃ r : Int, v = (0, r) ∧ (-4) ≤ r ∧ r ≤ 50 ∧ zInv m' ∧ zFr W_106 m0 m') = Q
  show zW E d 106 0 [(2, 0), (0, a0), (0, a1), (9, 0)] [] m0 Q
  refine zw_3 zr_106_0 rfl ?_
  refine zw_C zr_106_1 (Or.inr rfl) zm_104 rfl rfl ⟨Nat.le_of_ble_eq_true rfl, Nat.le_of_ble_eq_true rfl, Nat.le_of_ble_eq_true rfl, rfl, by decide⟩ (by omega) (P := (fun v m' => zW E (d) 106 4 [(2, 0), (0, a0), (0, a1), (9, 0)] (if v.1 = 9 then [] else v :: []) m' Q)) ?_ (fun _ _ h => h)
  generalize hQ1 : (fun v m' => zW E (d) 106 4 [(2, 0), (0, a0), (0, a1), (9, 0)] (if v.1 = 9 then [] else v :: []) m' Q) = Q1
  show zW E (d - 1) 104 0 [(0, a0)] [] m0 Q1
  refine zw_3 zr_104_0 rfl ?_
  refine zw_push zr_104_1 ?_
  refine zw_push zr_104_2 ?_
  refine zw_C zr_104_3 (Or.inr rfl) zm_100 rfl rfl ⟨Nat.le_of_ble_eq_true rfl, Nat.le_of_ble_eq_true rfl, Nat.le_of_ble_eq_true rfl, rfl, by decide⟩ (by omega) (P := (fun v m' => zW E (d - 1) 104 6 [(0, a0)] (if v.1 = 9 then [] else v :: []) m' Q1)) ?_ (fun _ _ h => h)
  generalize hQ2 : (fun v m' => zW E (d - 1) 104 6 [(0, a0)] (if v.1 = 9 then [] else v :: []) m' Q1) = Q2
  show zW E (d - 1 - 1) 100 0 [(0, a0), (0, 0), (0, 3)] [] m0 Q2
  refine zw_3 zr_100_0 rfl ?_
  refine zw_3 zr_100_1 rfl ?_
  refine zw_41_0 zr_100_2 ?_ ?_
  · intro h1
    refine zw_push zr_100_14 ?_
    refine zw_R zr_100_15 (by decide) zm_100 (v := (0, 0)) (zRetB (by omega)) ?_
    rw [← hQ2]
    show zW E (d - 1) 104 6 [(0, a0)] [(0, 0)] m0 Q1
    refine zw_R zr_104_6 (by decide) zm_104 (v := (0, 0)) (zRetB (by omega)) ?_
    rw [← hQ1]
    show zW E (d) 106 4 [(2, 0), (0, a0), (0, a1), (9, 0)] [(0, 0)] m0 Q
    refine zw_40_1 zr_106_4 ?_ ?_
    · intro h2
      refine zw_push zr_106_17 ?_
      refine zw_R zr_106_19 (by decide) zm_106 (v := (0, (-2))) rfl ?_
      rw [← hQ]; exact ⟨_, rfl, by omega, by omega, hI0, hF0⟩
    · intro h3; omega
  · intro h4
    refine zw_3 zr_100_5 rfl ?_
    refine zw_3 zr_100_6 rfl ?_
    refine zw_41_2 zr_100_7 ?_ ?_
    · intro h5
      refine zw_push zr_100_14 ?_
      refine zw_R zr_100_15 (by decide) zm_100 (v := (0, 0)) (zRetB (by omega)) ?_
      rw [← hQ2]
      show zW E (d - 1) 104 6 [(0, a0)] [(0, 0)] m0 Q1
      refine zw_R zr_104_6 (by decide) zm_104 (v := (0, 0)) (zRetB (by omega)) ?_
      rw [← hQ1]
      show zW E (d) 106 4 [(2, 0), (0, a0), (0, a1), (9, 0)] [(0, 0)] m0 Q
      refine zw_40_1 zr_106_4 ?_ ?_
      · intro h6
        refine zw_push zr_106_17 ?_
        refine zw_R zr_106_19 (by decide) zm_106 (v := (0, (-2))) rfl ?_
        rw [← hQ]; exact ⟨_, rfl, by omega, by omega, hI0, hF0⟩
      · intro h7; omega
    · intro h8
      refine zw_push zr_100_10 ?_
      refine zw_42 zr_100_11 ?_
      refine zw_R zr_100_15 (by decide) zm_100 (v := (0, 1)) (zRetB (by omega)) ?_
      rw [← hQ2]
      show zW E (d - 1) 104 6 [(0, a0)] [(0, 1)] m0 Q1
      refine zw_R zr_104_6 (by decide) zm_104 (v := (0, 1)) (zRetB (by omega)) ?_
      rw [← hQ1]
      show zW E (d) 106 4 [(2, 0), (0, a0), (0, a1), (9, 0)] [(0, 1)] m0 Q
      refine zw_40_1 zr_106_4 ?_ ?_
      · intro h9; omega
      · intro h10
        refine zw_3 zr_106_7 rfl ?_
        refine zw_push zr_106_8 ?_
        refine zw_push zr_106_9 ?_
        refine zw_C zr_106_11 (Or.inr rfl) zm_100 rfl rfl ⟨Nat.le_of_ble_eq_true rfl, Nat.le_of_ble_eq_true rfl, Nat.le_of_ble_eq_true rfl, rfl, by decide⟩ (by omega) (P := (fun v m' => zW E (d) 106 14 [(2, 0), (0, a0), (0, a1), (9, 0)] (if v.1 = 9 then [] else v :: []) m' Q)) ?_ (fun _ _ h => h)
        generalize hQ1 : (fun v m' => zW E (d) 106 14 [(2, 0), (0, a0), (0, a1), (9, 0)] (if v.1 = 9 then [] else v :: []) m' Q) = Q1
        show zW E (d - 1) 100 0 [(0, a1), (0, 0), (0, 127)] [] m0 Q1
        refine zw_3 zr_100_0 rfl ?_
        refine zw_3 zr_100_1 rfl ?_
        refine zw_41_0 zr_100_2 ?_ ?_
        · intro h11
          refine zw_push zr_100_14 ?_
          refine zw_R zr_100_15 (by decide) zm_100 (v := (0, 0)) (zRetB (by omega)) ?_
          rw [← hQ1]
          show zW E (d) 106 14 [(2, 0), (0, a0), (0, a1), (9, 0)] [(0, 0)] m0 Q
          refine zw_40_4 zr_106_14 ?_ ?_
          · intro h12; omega
          · intro h13
            refine zw_push zr_106_17 ?_
            refine zw_R zr_106_19 (by decide) zm_106 (v := (0, (-2))) rfl ?_
            rw [← hQ]; exact ⟨_, rfl, by omega, by omega, hI0, hF0⟩
        · intro h14
          refine zw_3 zr_100_5 rfl ?_
          refine zw_3 zr_100_6 rfl ?_
          refine zw_41_2 zr_100_7 ?_ ?_
          · intro h15
            refine zw_push zr_100_14 ?_
            refine zw_R zr_100_15 (by decide) zm_100 (v := (0, 0)) (zRetB (by omega)) ?_
            rw [← hQ1]
            show zW E (d) 106 14 [(2, 0), (0, a0), (0, a1), (9, 0)] [(0, 0)] m0 Q
            refine zw_40_4 zr_106_14 ?_ ?_
            · intro h16; omega
            · intro h17
              refine zw_push zr_106_17 ?_
              refine zw_R zr_106_19 (by decide) zm_106 (v := (0, (-2))) rfl ?_
              rw [← hQ]; exact ⟨_, rfl, by omega, by omega, hI0, hF0⟩
          · intro h18
            refine zw_push zr_100_10 ?_
            refine zw_42 zr_100_11 ?_
            refine zw_R zr_100_15 (by decide) zm_100 (v := (0, 1)) (zRetB (by omega)) ?_
            rw [← hQ1]
            show zW E (d) 106 14 [(2, 0), (0, a0), (0, a1), (9, 0)] [(0, 1)] m0 Q
            refine zw_40_4 zr_106_14 ?_ ?_
            · intro h19
              refine zw_7 zr_106_20 rfl ?_
              refine zw_46r (s := 1) zr_106_21 rfl rfl rfl rfl ?_
              refine zw_46r (s := 10) zr_106_24 rfl rfl rfl rfl ?_
              refine zw_3 zr_106_27 rfl ?_
              refine zw_48 (c := 10) (len := 4) zr_106_28 rfl rfl (by omega) (by omega) ?_
              intro x20 ex20
              have bx20 := ib_10 hI0 (k := (a0).toNat) (by omega)
              rw [← ex20] at bx20
              clear ex20
              refine zw_9 (L' := [(2, 0), (0, a0), (0, a1), (0, x20)]) zr_106_29 (Nat.le_of_ble_eq_true rfl) rfl ?_
              refine zw_3 zr_106_30 rfl ?_
              refine zw_push zr_106_31 ?_
              refine zw_41_0 zr_106_33 ?_ ?_
              · intro h21
                refine zw_7 zr_106_39 rfl ?_
                refine zw_46r (s := 1) zr_106_40 rfl rfl rfl rfl ?_
                refine zw_46r (s := 11) zr_106_43 rfl rfl rfl rfl ?_
                refine zw_3 zr_106_46 rfl ?_
                refine zw_push zr_106_47 ?_
                refine zw_18 zr_106_49 (by omega) ?_
                refine zw_3 zr_106_50 rfl ?_
                refine zw_16 zr_106_51 (by omega) ?_
                refine zw_3 zr_106_52 rfl ?_
                refine zw_49 (c := 11) (len := 200) zr_106_53 rfl rfl (by omega) (by omega) ?_
                intro m22 em22
                have hIm22 : zInv m22 := by rw [em22]; exact iu_11 hI0 (by omega)
                have hFm22 : zFr W_106 m0 m22 := by rw [em22]; exact hF0.any rfl
                clear em22
                refine zw_7 zr_106_54 rfl ?_
                refine zw_46r (s := 1) zr_106_55 rfl rfl rfl rfl ?_
                refine zw_46r (s := 10) zr_106_58 rfl rfl rfl rfl ?_
                refine zw_3 zr_106_61 rfl ?_
                refine zw_3 zr_106_62 rfl ?_
                refine zw_push zr_106_63 ?_
                refine zw_16 zr_106_64 (by omega) ?_
                refine zw_49 (c := 10) (len := 4) zr_106_65 rfl rfl (by omega) (by omega) ?_
                intro m23 em23
                have hIm23 : zInv m23 := by rw [em23]; exact iu_10 hIm22 (by omega)
                have hFm23 : zFr W_106 m0 m23 := by rw [em23]; exact hFm22.any rfl
                clear em23
                refine zw_3 zr_106_66 rfl ?_
                refine zw_push zr_106_67 ?_
                refine zw_16 zr_106_68 (by omega) ?_
                refine zw_R zr_106_69 (by decide) zm_106 (v := (0, (x20 + 1))) rfl ?_
                rw [← hQ]; exact ⟨_, rfl, by omega, by omega, hIm23, hFm23⟩
              · intro h24
                refine zw_push zr_106_36 ?_
                refine zw_R zr_106_38 (by decide) zm_106 (v := (0, (-4))) rfl ?_
                rw [← hQ]; exact ⟨_, rfl, by omega, by omega, hI0, hF0⟩
            · intro h25; omega
