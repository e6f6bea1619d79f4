abbrev W_206 : List (Nat × Nat) := [(69, 3), (69, 4)]
set_option maxHeartbeats 8000000 in
theorem th_206 {E : zE} {d : Nat} {m0 : zM} {a0 : Int} {a1 : Int} {g0 : Int} {F70 : Nat → Int} (hd : 3 ≤ d) (hI0 : zInv m0) (hg0 : m0 70 822 = g0) (hG70 : m0 70 = F70) (ha0 : (-2147483648) ≤ a0 ∧ a0 ≤ 2147483647) (ha1 : (-2147483648) ≤ a1 ∧ a1 ≤ 2147483647) : zC E d 206 [(2, 69), (0, a0), (0, a1)] m0 (fun v m' => ∃ r : Int, v = (0, r) ∧ (-3) ≤ r ∧ r ≤ 1 ∧ zInv m' ∧ zFr W_206 m0 m' ∧ ((r = -2 ∧ (a0 < 0 ∨ g0 ≤ a0 ∨ a1 < 0 ∨ 1 < a1)) ∨ (0 ≤ a0 ∧ a0 < g0 ∧ 0 ≤ a1 ∧ a1 ≤ 1 ∧ ((r = -3 ∧ F70 (10 + 8 * a0 + 2 * 0 + 1).toNat + F70 (10 + 8 * a0 + 2 * (0 + 1) + 1).toNat + F70 (10 + 8 * a0 + 2 * ((0 + 1) + 1) + 1).toNat + F70 (10 + 8 * a0 + 2 * (((0 + 1) + 1) + 1) + 1).toNat = 0) ∨ (r = 1 ∧ F70 (10 + 8 * a0 + 2 * 0 + 1).toNat + F70 (10 + 8 * a0 + 2 * (0 + 1) + 1).toNat + F70 (10 + 8 * a0 + 2 * ((0 + 1) + 1) + 1).toNat + F70 (10 + 8 * a0 + 2 * (((0 + 1) + 1) + 1) + 1).toNat ≠ 0))))) := by
  have hF0 : zFr W_206 m0 m0 := zFr.rfl
  have bg0 : 0 ≤ m0 70 822 ∧ m0 70 822 ≤ 10 := ib_70_players hI0 (by omega)
  rw [hg0] at bg0
  generalize hQ : (fun (v : zV) (m' : zM) => ∃ r : Int, v = (0, r) ∧ (-3) ≤ r ∧ r ≤ 1 ∧ zInv m' ∧ zFr W_206 m0 m' ∧ ((r = -2 ∧ (a0 < 0 ∨ g0 ≤ a0 ∨ a1 < 0 ∨ 1 < a1)) ∨ (0 ≤ a0 ∧ a0 < g0 ∧ 0 ≤ a1 ∧ a1 ≤ 1 ∧ ((r = -3 ∧ F70 (10 + 8 * a0 + 2 * 0 + 1).toNat + F70 (10 + 8 * a0 + 2 * (0 + 1) + 1).toNat + F70 (10 + 8 * a0 + 2 * ((0 + 1) + 1) + 1).toNat + F70 (10 + 8 * a0 + 2 * (((0 + 1) + 1) + 1) + 1).toNat = 0) ∨ (r = 1 ∧ F70 (10 + 8 * a0 + 2 * 0 + 1).toNat + F70 (10 + 8 * a0 + 2 * (0 + 1) + 1).toNat + F70 (10 + 8 * a0 + 2 * ((0 + 1) + 1) + 1).toNat + F70 (10 + 8 * a0 + 2 * (((0 + 1) + 1) + 1) + 1).toNat ≠ 0))))) = Q
  show zW E d 206 0 [(2, 69), (0, a0), (0, a1), (9, 0), (9, 0), (9, 0), (9, 0), (9, 0), (9, 0), (9, 0), (9, 0), (9, 0), (9, 0), (9, 0), (9, 0), (9, 0), (9, 0), (9, 0)] [] m0 Q
  refine zw_7 zr_206_0 rfl ?_
  refine zw_3 zr_206_1 rfl ?_
  refine zw_C zr_206_2 (Or.inl rfl) zm_143 rfl rfl ⟨Nat.le_of_ble_eq_true rfl, Nat.le_of_ble_eq_true rfl, Nat.le_of_ble_eq_true rfl, rfl, by decide⟩ (by omega) (P := (fun v m' => zW E (d) 206 5 [(2, 69), (0, a0), (0, a1), (9, 0), (9, 0), (9, 0), (9, 0), (9, 0), (9, 0), (9, 0), (9, 0), (9, 0), (9, 0), (9, 0), (9, 0), (9, 0), (9, 0), (9, 0)] (if v.1 = 9 then [] else v :: []) m' Q)) ?_ (fun _ _ h => h)
  generalize hQ1 : (fun v m' => zW E (d) 206 5 [(2, 69), (0, a0), (0, a1), (9, 0), (9, 0), (9, 0), (9, 0), (9, 0), (9, 0), (9, 0), (9, 0), (9, 0), (9, 0), (9, 0), (9, 0), (9, 0), (9, 0), (9, 0)] (if v.1 = 9 then [] else v :: []) m' Q) = Q1
  show zW E (d - 1) 143 0 [(2, 69), (0, a0)] [] m0 Q1
  refine zw_3 zr_143_0 rfl ?_
  refine zw_36 zr_143_1 ?_
  refine zw_push zr_143_2 ?_
  refine zw_7 zr_143_3 rfl ?_
  refine zw_C zr_143_4 (Or.inl rfl) zm_141 rfl rfl ⟨Nat.le_of_ble_eq_true rfl, Nat.le_of_ble_eq_true rfl, Nat.le_of_ble_eq_true rfl, rfl, by decide⟩ (by omega) (P := (fun v m' => zW E (d - 1) 143 7 [(2, 69), (0, a0)] (if v.1 = 9 then [(1, 0), (1, a0)] else v :: [(1, 0), (1, a0)]) m' Q1)) ?_ (fun _ _ h => h)
  generalize hQ2 : (fun v m' => zW E (d - 1) 143 7 [(2, 69), (0, a0)] (if v.1 = 9 then [(1, 0), (1, a0)] else v :: [(1, 0), (1, a0)]) m' Q1) = Q2
  show zW E (d - 1 - 1) 141 0 [(2, 69)] [] m0 Q2
  refine zw_7 zr_141_0 rfl ?_
  refine zw_46r (s := 70) zr_141_1 rfl rfl rfl rfl ?_
  refine zw_push zr_141_4 ?_
  refine zw_48k (c := 70) (len := 826) zr_141_7 rfl rfl (by omega) (by omega) (show (822 : Int).toNat = 822 by omega) hg0 ?_
  refine zw_R zr_141_8 (by decide) zm_141 (v := (0, g0)) rfl ?_
  rw [← hQ2]
  show zW E (d - 1) 143 7 [(2, 69), (0, a0)] [(0, g0), (1, 0), (1, a0)] m0 Q1
  refine zw_push zr_143_7 ?_
  refine zw_17 zr_143_8 (by omega) ?_
  refine zw_36 zr_143_9 ?_
  refine zw_C zr_143_10 (Or.inr rfl) zm_140 rfl rfl ⟨Nat.le_of_ble_eq_true rfl, Nat.le_of_ble_eq_true rfl, Nat.le_of_ble_eq_true rfl, rfl, by decide⟩ (by omega) (P := (fun v m' => zW E (d - 1) 143 13 [(2, 69), (0, a0)] (if v.1 = 9 then [] else v :: []) m' Q1)) ?_ (fun _ _ h => h)
  generalize hQ2 : (fun v m' => zW E (d - 1) 143 13 [(2, 69), (0, a0)] (if v.1 = 9 then [] else v :: []) m' Q1) = Q2
  show zW E (d - 1 - 1) 140 0 [(1, a0), (9, 0), (1, 0), (9, 0), (1, (g0 - 1)), (9, 0)] [] m0 Q2
  refine zw_5 zr_140_0 rfl ?_
  refine zw_5 zr_140_1 rfl ?_
  refine zw_39_0 zr_140_2 zr_140_3 ?_ ?_
  · intro h1
    refine zw_push zr_140_17 ?_
    refine zw_R zr_140_18 (by decide) zm_140 (v := (0, 0)) (zRetB (by omega)) ?_
    rw [← hQ2]
    show zW E (d - 1) 143 13 [(2, 69), (0, a0)] [(0, 0)] m0 Q1
    refine zw_R zr_143_13 (by decide) zm_143 (v := (0, 0)) (zRetB (by omega)) ?_
    rw [← hQ1]
    show zW E (d) 206 5 [(2, 69), (0, a0), (0, a1), (9, 0), (9, 0), (9, 0), (9, 0), (9, 0), (9, 0), (9, 0), (9, 0), (9, 0), (9, 0), (9, 0), (9, 0), (9, 0), (9, 0), (9, 0)] [(0, 0)] m0 Q
    refine zw_40_1 zr_206_5 ?_ ?_
    · intro h2
      refine zw_push zr_206_18 ?_
      refine zw_R zr_206_20 (by decide) zm_206 (v := (0, (-2))) rfl ?_
      rw [← hQ]; exact ⟨_, rfl, by omega, by omega, hI0, hF0, by omega⟩
    · intro h4; omega
  · intro h5
    refine zw_5 zr_140_6 rfl ?_
    refine zw_6 zr_140_7 rfl ?_
    refine zw_39_2 zr_140_9 zr_140_10 ?_ ?_
    · intro h6
      refine zw_push zr_140_17 ?_
      refine zw_R zr_140_18 (by decide) zm_140 (v := (0, 0)) (zRetB (by omega)) ?_
      rw [← hQ2]
      show zW E (d - 1) 143 13 [(2, 69), (0, a0)] [(0, 0)] m0 Q1
      refine zw_R zr_143_13 (by decide) zm_143 (v := (0, 0)) (zRetB (by omega)) ?_
      rw [← hQ1]
      show zW E (d) 206 5 [(2, 69), (0, a0), (0, a1), (9, 0), (9, 0), (9, 0), (9, 0), (9, 0), (9, 0), (9, 0), (9, 0), (9, 0), (9, 0), (9, 0), (9, 0), (9, 0), (9, 0), (9, 0)] [(0, 0)] m0 Q
      refine zw_40_1 zr_206_5 ?_ ?_
      · intro h7
        refine zw_push zr_206_18 ?_
        refine zw_R zr_206_20 (by decide) zm_206 (v := (0, (-2))) rfl ?_
        rw [← hQ]; exact ⟨_, rfl, by omega, by omega, hI0, hF0, by omega⟩
      · intro h9; omega
    · intro h10
      refine zw_push zr_140_13 ?_
      refine zw_42 zr_140_14 ?_
      refine zw_R zr_140_18 (by decide) zm_140 (v := (0, 1)) (zRetB (by omega)) ?_
      rw [← hQ2]
      show zW E (d - 1) 143 13 [(2, 69), (0, a0)] [(0, 1)] m0 Q1
      refine zw_R zr_143_13 (by decide) zm_143 (v := (0, 1)) (zRetB (by omega)) ?_
      rw [← hQ1]
      show zW E (d) 206 5 [(2, 69), (0, a0), (0, a1), (9, 0), (9, 0), (9, 0), (9, 0), (9, 0), (9, 0), (9, 0), (9, 0), (9, 0), (9, 0), (9, 0), (9, 0), (9, 0), (9, 0), (9, 0)] [(0, 1)] m0 Q
      refine zw_40_1 zr_206_5 ?_ ?_
      · intro h11; omega
      · intro h12
        refine zw_3 zr_206_8 rfl ?_
        refine zw_36 zr_206_9 ?_
        refine zw_push zr_206_10 ?_
        refine zw_push zr_206_11 ?_
        refine zw_C zr_206_12 (Or.inr rfl) zm_140 rfl rfl ⟨Nat.le_of_ble_eq_true rfl, Nat.le_of_ble_eq_true rfl, Nat.le_of_ble_eq_true rfl, rfl, by decide⟩ (by omega) (P := (fun v m' => zW E (d) 206 15 [(2, 69), (0, a0), (0, a1), (9, 0), (9, 0), (9, 0), (9, 0), (9, 0), (9, 0), (9, 0), (9, 0), (9, 0), (9, 0), (9, 0), (9, 0), (9, 0), (9, 0), (9, 0)] (if v.1 = 9 then [] else v :: []) m' Q)) ?_ (fun _ _ h => h)
        generalize hQ1 : (fun v m' => zW E (d) 206 15 [(2, 69), (0, a0), (0, a1), (9, 0), (9, 0), (9, 0), (9, 0), (9, 0), (9, 0), (9, 0), (9, 0), (9, 0), (9, 0), (9, 0), (9, 0), (9, 0), (9, 0), (9, 0)] (if v.1 = 9 then [] else v :: []) m' Q) = Q1
        show zW E (d - 1) 140 0 [(1, a1), (9, 0), (1, 0), (9, 0), (1, 1), (9, 0)] [] m0 Q1
        refine zw_5 zr_140_0 rfl ?_
        refine zw_5 zr_140_1 rfl ?_
        refine zw_39_0 zr_140_2 zr_140_3 ?_ ?_
        · intro h13
          refine zw_push zr_140_17 ?_
          refine zw_R zr_140_18 (by decide) zm_140 (v := (0, 0)) (zRetB (by omega)) ?_
          rw [← hQ1]
          show zW E (d) 206 15 [(2, 69), (0, a0), (0, a1), (9, 0), (9, 0), (9, 0), (9, 0), (9, 0), (9, 0), (9, 0), (9, 0), (9, 0), (9, 0), (9, 0), (9, 0), (9, 0), (9, 0), (9, 0)] [(0, 0)] m0 Q
          refine zw_40_4 zr_206_15 ?_ ?_
          · intro h14; omega
          · intro h15
            refine zw_push zr_206_18 ?_
            refine zw_R zr_206_20 (by decide) zm_206 (v := (0, (-2))) rfl ?_
            rw [← hQ]; exact ⟨_, rfl, by omega, by omega, hI0, hF0, by omega⟩
        · intro h17
          refine zw_5 zr_140_6 rfl ?_
          refine zw_6 zr_140_7 rfl ?_
          refine zw_39_2 zr_140_9 zr_140_10 ?_ ?_
          · intro h18
            refine zw_push zr_140_17 ?_
            refine zw_R zr_140_18 (by decide) zm_140 (v := (0, 0)) (zRetB (by omega)) ?_
            rw [← hQ1]
            show zW E (d) 206 15 [(2, 69), (0, a0), (0, a1), (9, 0), (9, 0), (9, 0), (9, 0), (9, 0), (9, 0), (9, 0), (9, 0), (9, 0), (9, 0), (9, 0), (9, 0), (9, 0), (9, 0), (9, 0)] [(0, 0)] m0 Q
            refine zw_40_4 zr_206_15 ?_ ?_
            · intro h19; omega
            · intro h20
              refine zw_push zr_206_18 ?_
              refine zw_R zr_206_20 (by decide) zm_206 (v := (0, (-2))) rfl ?_
              rw [← hQ]; exact ⟨_, rfl, by omega, by omega, hI0, hF0, by omega⟩
          · intro h22
            refine zw_push zr_140_13 ?_
            refine zw_42 zr_140_14 ?_
            refine zw_R zr_140_18 (by decide) zm_140 (v := (0, 1)) (zRetB (by omega)) ?_
            rw [← hQ1]
            show zW E (d) 206 15 [(2, 69), (0, a0), (0, a1), (9, 0), (9, 0), (9, 0), (9, 0), (9, 0), (9, 0), (9, 0), (9, 0), (9, 0), (9, 0), (9, 0), (9, 0), (9, 0), (9, 0), (9, 0)] [(0, 1)] m0 Q
            refine zw_40_4 zr_206_15 ?_ ?_
            · intro h23
              refine zw_push zr_206_21 ?_
              refine zw_13 (L' := [(2, 69), (0, a0), (0, a1), (1, 0), (9, 0), (9, 0), (9, 0), (9, 0), (9, 0), (9, 0), (9, 0), (9, 0), (9, 0), (9, 0), (9, 0), (9, 0), (9, 0), (9, 0)]) zr_206_22 (Nat.le_of_ble_eq_true rfl) rfl ?_
              refine zw_push zr_206_23 ?_
              refine zw_14 (L' := [(2, 69), (0, a0), (0, a1), (1, 0), (9, 0), (1, 0), (9, 0), (9, 0), (9, 0), (9, 0), (9, 0), (9, 0), (9, 0), (9, 0), (9, 0), (9, 0), (9, 0), (9, 0)]) zr_206_24 (Nat.le_of_ble_eq_true rfl) rfl ?_
              refine zw_push zr_206_26 ?_
              refine zw_14 (L' := [(2, 69), (0, a0), (0, a1), (1, 0), (9, 0), (1, 0), (9, 0), (1, 0), (9, 0), (9, 0), (9, 0), (9, 0), (9, 0), (9, 0), (9, 0), (9, 0), (9, 0), (9, 0)]) zr_206_27 (Nat.le_of_ble_eq_true rfl) rfl ?_
              refine zw_push zr_206_29 ?_
              refine zw_14 (L' := [(2, 69), (0, a0), (0, a1), (1, 0), (9, 0), (1, 0), (9, 0), (1, 0), (9, 0), (1, 1), (9, 0), (9, 0), (9, 0), (9, 0), (9, 0), (9, 0), (9, 0), (9, 0)]) zr_206_30 (Nat.le_of_ble_eq_true rfl) rfl ?_
              refine zw_push zr_206_32 ?_
              refine zw_14 (L' := [(2, 69), (0, a0), (0, a1), (1, 0), (9, 0), (1, 0), (9, 0), (1, 0), (9, 0), (1, 1), (9, 0), (1, 0), (9, 0), (9, 0), (9, 0), (9, 0), (9, 0), (9, 0)]) zr_206_33 (Nat.le_of_ble_eq_true rfl) rfl ?_
              refine zw_push zr_206_35 ?_
              refine zw_10 (L' := [(2, 69), (0, a0), (0, a1), (1, 0), (9, 0), (1, 0), (9, 0), (1, 0), (9, 0), (1, 1), (9, 0), (1, 0), (9, 0), (0, 0), (9, 0), (9, 0), (9, 0), (9, 0)]) zr_206_36 (Nat.le_of_ble_eq_true rfl) rfl ?_
              refine zw_4 zr_206_38 rfl ?_
              refine zw_push zr_206_40 ?_
              refine zw_41_3 zr_206_41 ?_ ?_
              · intro h24; omega
              · intro h25
                refine zw_7 zr_206_44 rfl ?_
                refine zw_46r (s := 70) zr_206_45 rfl rfl rfl rfl ?_
                refine zw_push zr_206_48 ?_
                refine zw_push zr_206_50 ?_
                refine zw_3 zr_206_52 rfl ?_
                refine zw_18 zr_206_53 (by omega) ?_
                refine zw_16 zr_206_54 (by omega) ?_
                refine zw_push zr_206_55 ?_
                refine zw_4 zr_206_56 rfl ?_
                refine zw_18 zr_206_58 (by omega) ?_
                refine zw_16 zr_206_59 (by omega) ?_
                refine zw_48 (c := 70) (len := 826) zr_206_60 rfl rfl (by omega) (by omega) ?_
                intro x26 ex26
                have bx26 := ib_70_moves hI0 (k := (((10 + (8 * a0)) + (2 * 0))).toNat) (by omega)
                rw [← ex26] at bx26
                have qx26 : x26 = F70 (((10 + (8 * a0)) + (2 * 0))).toNat := by rw [← hG70]; exact ex26
                clear ex26
                refine zw_36 zr_206_61 ?_
                refine zw_14 (L' := [(2, 69), (0, a0), (0, a1), (1, 0), (9, 0), (1, 0), (9, 0), (1, 0), (9, 0), (1, 1), (9, 0), (1, 0), (9, 0), (0, 0), (1, x26), (9, 0), (9, 0), (9, 0)]) zr_206_62 (Nat.le_of_ble_eq_true rfl) rfl ?_
                refine zw_7 zr_206_64 rfl ?_
                refine zw_46r (s := 70) zr_206_65 rfl rfl rfl rfl ?_
                refine zw_push zr_206_68 ?_
                refine zw_push zr_206_70 ?_
                refine zw_3 zr_206_72 rfl ?_
                refine zw_18 zr_206_73 (by omega) ?_
                refine zw_16 zr_206_74 (by omega) ?_
                refine zw_push zr_206_75 ?_
                refine zw_4 zr_206_76 rfl ?_
                refine zw_18 zr_206_78 (by omega) ?_
                refine zw_16 zr_206_79 (by omega) ?_
                refine zw_push zr_206_80 ?_
                refine zw_16 zr_206_81 (by omega) ?_
                refine zw_48 (c := 70) (len := 826) zr_206_82 rfl rfl (by omega) (by omega) ?_
                intro x27 ex27
                have bx27 := ib_70_moves hI0 (k := ((((10 + (8 * a0)) + (2 * 0)) + 1)).toNat) (by omega)
                rw [← ex27] at bx27
                have qx27 : x27 = F70 ((((10 + (8 * a0)) + (2 * 0)) + 1)).toNat := by rw [← hG70]; exact ex27
                clear ex27
                refine zw_36 zr_206_83 ?_
                refine zw_14 (L' := [(2, 69), (0, a0), (0, a1), (1, 0), (9, 0), (1, 0), (9, 0), (1, 0), (9, 0), (1, 1), (9, 0), (1, 0), (9, 0), (0, 0), (1, x26), (9, 0), (1, x27), (9, 0)]) zr_206_84 (Nat.le_of_ble_eq_true rfl) rfl ?_
                refine zw_6 zr_206_86 rfl ?_
                refine zw_push zr_206_88 ?_
                refine zw_39_5 zr_206_89 zr_206_90 ?_ ?_
                · intro h28
                  refine zw_15 (c := 1) (L' := [(2, 69), (0, a0), (0, a1), (1, 0), (9, 0), (1, 0), (9, 0), (1, 0), (9, 0), (1, 1), (9, 0), (1, 0), (9, 0), (0, (0 + 1)), (1, x26), (9, 0), (1, x27), (9, 0)]) zr_206_155 rfl (by decide) (by omega) rfl ?_
                  refine zw_42 zr_206_158 ?_
                  refine zw_4 zr_206_38 rfl ?_
                  refine zw_push zr_206_40 ?_
                  refine zw_41_3 zr_206_41 ?_ ?_
                  · intro h29; omega
                  · intro h30
                    refine zw_7 zr_206_44 rfl ?_
                    refine zw_46r (s := 70) zr_206_45 rfl rfl rfl rfl ?_
                    refine zw_push zr_206_48 ?_
                    refine zw_push zr_206_50 ?_
                    refine zw_3 zr_206_52 rfl ?_
                    refine zw_18 zr_206_53 (by omega) ?_
                    refine zw_16 zr_206_54 (by omega) ?_
                    refine zw_push zr_206_55 ?_
                    refine zw_4 zr_206_56 rfl ?_
                    refine zw_18 zr_206_58 (by omega) ?_
                    refine zw_16 zr_206_59 (by omega) ?_
                    refine zw_48 (c := 70) (len := 826) zr_206_60 rfl rfl (by omega) (by omega) ?_
                    intro x31 ex31
                    have bx31 := ib_70_moves hI0 (k := (((10 + (8 * a0)) + (2 * (0 + 1)))).toNat) (by omega)
                    rw [← ex31] at bx31
                    have qx31 : x31 = F70 (((10 + (8 * a0)) + (2 * (0 + 1)))).toNat := by rw [← hG70]; exact ex31
                    clear ex31
                    refine zw_36 zr_206_61 ?_
                    refine zw_14 (L' := [(2, 69), (0, a0), (0, a1), (1, 0), (9, 0), (1, 0), (9, 0), (1, 0), (9, 0), (1, 1), (9, 0), (1, 0), (9, 0), (0, (0 + 1)), (1, x31), (9, 0), (1, x27), (9, 0)]) zr_206_62 (Nat.le_of_ble_eq_true rfl) rfl ?_
                    refine zw_7 zr_206_64 rfl ?_
                    refine zw_46r (s := 70) zr_206_65 rfl rfl rfl rfl ?_
                    refine zw_push zr_206_68 ?_
                    refine zw_push zr_206_70 ?_
                    refine zw_3 zr_206_72 rfl ?_
                    refine zw_18 zr_206_73 (by omega) ?_
                    refine zw_16 zr_206_74 (by omega) ?_
                    refine zw_push zr_206_75 ?_
                    refine zw_4 zr_206_76 rfl ?_
                    refine zw_18 zr_206_78 (by omega) ?_
                    refine zw_16 zr_206_79 (by omega) ?_
                    refine zw_push zr_206_80 ?_
                    refine zw_16 zr_206_81 (by omega) ?_
                    refine zw_48 (c := 70) (len := 826) zr_206_82 rfl rfl (by omega) (by omega) ?_
                    intro x32 ex32
                    have bx32 := ib_70_moves hI0 (k := ((((10 + (8 * a0)) + (2 * (0 + 1))) + 1)).toNat) (by omega)
                    rw [← ex32] at bx32
                    have qx32 : x32 = F70 ((((10 + (8 * a0)) + (2 * (0 + 1))) + 1)).toNat := by rw [← hG70]; exact ex32
                    clear ex32
                    refine zw_36 zr_206_83 ?_
                    refine zw_14 (L' := [(2, 69), (0, a0), (0, a1), (1, 0), (9, 0), (1, 0), (9, 0), (1, 0), (9, 0), (1, 1), (9, 0), (1, 0), (9, 0), (0, (0 + 1)), (1, x31), (9, 0), (1, x32), (9, 0)]) zr_206_84 (Nat.le_of_ble_eq_true rfl) rfl ?_
                    refine zw_6 zr_206_86 rfl ?_
                    refine zw_push zr_206_88 ?_
                    refine zw_39_5 zr_206_89 zr_206_90 ?_ ?_
                    · intro h33
                      refine zw_15 (c := 1) (L' := [(2, 69), (0, a0), (0, a1), (1, 0), (9, 0), (1, 0), (9, 0), (1, 0), (9, 0), (1, 1), (9, 0), (1, 0), (9, 0), (0, ((0 + 1) + 1)), (1, x31), (9, 0), (1, x32), (9, 0)]) zr_206_155 rfl (by decide) (by omega) rfl ?_
                      refine zw_42 zr_206_158 ?_
                      refine zw_4 zr_206_38 rfl ?_
                      refine zw_push zr_206_40 ?_
                      refine zw_41_3 zr_206_41 ?_ ?_
                      · intro h34; omega
                      · intro h35
                        refine zw_7 zr_206_44 rfl ?_
                        refine zw_46r (s := 70) zr_206_45 rfl rfl rfl rfl ?_
                        refine zw_push zr_206_48 ?_
                        refine zw_push zr_206_50 ?_
                        refine zw_3 zr_206_52 rfl ?_
                        refine zw_18 zr_206_53 (by omega) ?_
                        refine zw_16 zr_206_54 (by omega) ?_
                        refine zw_push zr_206_55 ?_
                        refine zw_4 zr_206_56 rfl ?_
                        refine zw_18 zr_206_58 (by omega) ?_
                        refine zw_16 zr_206_59 (by omega) ?_
                        refine zw_48 (c := 70) (len := 826) zr_206_60 rfl rfl (by omega) (by omega) ?_
                        intro x36 ex36
                        have bx36 := ib_70_moves hI0 (k := (((10 + (8 * a0)) + (2 * ((0 + 1) + 1)))).toNat) (by omega)
                        rw [← ex36] at bx36
                        have qx36 : x36 = F70 (((10 + (8 * a0)) + (2 * ((0 + 1) + 1)))).toNat := by rw [← hG70]; exact ex36
                        clear ex36
                        refine zw_36 zr_206_61 ?_
                        refine zw_14 (L' := [(2, 69), (0, a0), (0, a1), (1, 0), (9, 0), (1, 0), (9, 0), (1, 0), (9, 0), (1, 1), (9, 0), (1, 0), (9, 0), (0, ((0 + 1) + 1)), (1, x36), (9, 0), (1, x32), (9, 0)]) zr_206_62 (Nat.le_of_ble_eq_true rfl) rfl ?_
                        refine zw_7 zr_206_64 rfl ?_
                        refine zw_46r (s := 70) zr_206_65 rfl rfl rfl rfl ?_
                        refine zw_push zr_206_68 ?_
                        refine zw_push zr_206_70 ?_
                        refine zw_3 zr_206_72 rfl ?_
                        refine zw_18 zr_206_73 (by omega) ?_
                        refine zw_16 zr_206_74 (by omega) ?_
                        refine zw_push zr_206_75 ?_
                        refine zw_4 zr_206_76 rfl ?_
                        refine zw_18 zr_206_78 (by omega) ?_
                        refine zw_16 zr_206_79 (by omega) ?_
                        refine zw_push zr_206_80 ?_
                        refine zw_16 zr_206_81 (by omega) ?_
                        refine zw_48 (c := 70) (len := 826) zr_206_82 rfl rfl (by omega) (by omega) ?_
                        intro x37 ex37
                        have bx37 := ib_70_moves hI0 (k := ((((10 + (8 * a0)) + (2 * ((0 + 1) + 1))) + 1)).toNat) (by omega)
                        rw [← ex37] at bx37
                        have qx37 : x37 = F70 ((((10 + (8 * a0)) + (2 * ((0 + 1) + 1))) + 1)).toNat := by rw [← hG70]; exact ex37
                        clear ex37
                        refine zw_36 zr_206_83 ?_
                        refine zw_14 (L' := [(2, 69), (0, a0), (0, a1), (1, 0), (9, 0), (1, 0), (9, 0), (1, 0), (9, 0), (1, 1), (9, 0), (1, 0), (9, 0), (0, ((0 + 1) + 1)), (1, x36), (9, 0), (1, x37), (9, 0)]) zr_206_84 (Nat.le_of_ble_eq_true rfl) rfl ?_
                        refine zw_6 zr_206_86 rfl ?_
                        refine zw_push zr_206_88 ?_
                        refine zw_39_5 zr_206_89 zr_206_90 ?_ ?_
                        · intro h38
                          refine zw_15 (c := 1) (L' := [(2, 69), (0, a0), (0, a1), (1, 0), (9, 0), (1, 0), (9, 0), (1, 0), (9, 0), (1, 1), (9, 0), (1, 0), (9, 0), (0, (((0 + 1) + 1) + 1)), (1, x36), (9, 0), (1, x37), (9, 0)]) zr_206_155 rfl (by decide) (by omega) rfl ?_
                          refine zw_42 zr_206_158 ?_
                          refine zw_4 zr_206_38 rfl ?_
                          refine zw_push zr_206_40 ?_
                          refine zw_41_3 zr_206_41 ?_ ?_
                          · intro h39; omega
                          · intro h40
                            refine zw_7 zr_206_44 rfl ?_
                            refine zw_46r (s := 70) zr_206_45 rfl rfl rfl rfl ?_
                            refine zw_push zr_206_48 ?_
                            refine zw_push zr_206_50 ?_
                            refine zw_3 zr_206_52 rfl ?_
                            refine zw_18 zr_206_53 (by omega) ?_
                            refine zw_16 zr_206_54 (by omega) ?_
                            refine zw_push zr_206_55 ?_
                            refine zw_4 zr_206_56 rfl ?_
                            refine zw_18 zr_206_58 (by omega) ?_
                            refine zw_16 zr_206_59 (by omega) ?_
                            refine zw_48 (c := 70) (len := 826) zr_206_60 rfl rfl (by omega) (by omega) ?_
                            intro x41 ex41
                            have bx41 := ib_70_moves hI0 (k := (((10 + (8 * a0)) + (2 * (((0 + 1) + 1) + 1)))).toNat) (by omega)
                            rw [← ex41] at bx41
                            have qx41 : x41 = F70 (((10 + (8 * a0)) + (2 * (((0 + 1) + 1) + 1)))).toNat := by rw [← hG70]; exact ex41
                            clear ex41
                            refine zw_36 zr_206_61 ?_
                            refine zw_14 (L' := [(2, 69), (0, a0), (0, a1), (1, 0), (9, 0), (1, 0), (9, 0), (1, 0), (9, 0), (1, 1), (9, 0), (1, 0), (9, 0), (0, (((0 + 1) + 1) + 1)), (1, x41), (9, 0), (1, x37), (9, 0)]) zr_206_62 (Nat.le_of_ble_eq_true rfl) rfl ?_
                            refine zw_7 zr_206_64 rfl ?_
                            refine zw_46r (s := 70) zr_206_65 rfl rfl rfl rfl ?_
                            refine zw_push zr_206_68 ?_
                            refine zw_push zr_206_70 ?_
                            refine zw_3 zr_206_72 rfl ?_
                            refine zw_18 zr_206_73 (by omega) ?_
                            refine zw_16 zr_206_74 (by omega) ?_
                            refine zw_push zr_206_75 ?_
                            refine zw_4 zr_206_76 rfl ?_
                            refine zw_18 zr_206_78 (by omega) ?_
                            refine zw_16 zr_206_79 (by omega) ?_
                            refine zw_push zr_206_80 ?_
                            refine zw_16 zr_206_81 (by omega) ?_
                            refine zw_48 (c := 70) (len := 826) zr_206_82 rfl rfl (by omega) (by omega) ?_
                            intro x42 ex42
                            have bx42 := ib_70_moves hI0 (k := ((((10 + (8 * a0)) + (2 * (((0 + 1) + 1) + 1))) + 1)).toNat) (by omega)
                            rw [← ex42] at bx42
                            have qx42 : x42 = F70 ((((10 + (8 * a0)) + (2 * (((0 + 1) + 1) + 1))) + 1)).toNat := by rw [← hG70]; exact ex42
                            clear ex42
                            refine zw_36 zr_206_83 ?_
                            refine zw_14 (L' := [(2, 69), (0, a0), (0, a1), (1, 0), (9, 0), (1, 0), (9, 0), (1, 0), (9, 0), (1, 1), (9, 0), (1, 0), (9, 0), (0, (((0 + 1) + 1) + 1)), (1, x41), (9, 0), (1, x42), (9, 0)]) zr_206_84 (Nat.le_of_ble_eq_true rfl) rfl ?_
                            refine zw_6 zr_206_86 rfl ?_
                            refine zw_push zr_206_88 ?_
                            refine zw_39_5 zr_206_89 zr_206_90 ?_ ?_
                            · intro h43
                              refine zw_15 (c := 1) (L' := [(2, 69), (0, a0), (0, a1), (1, 0), (9, 0), (1, 0), (9, 0), (1, 0), (9, 0), (1, 1), (9, 0), (1, 0), (9, 0), (0, ((((0 + 1) + 1) + 1) + 1)), (1, x41), (9, 0), (1, x42), (9, 0)]) zr_206_155 rfl (by decide) (by omega) rfl ?_
                              refine zw_42 zr_206_158 ?_
                              refine zw_4 zr_206_38 rfl ?_
                              refine zw_push zr_206_40 ?_
                              refine zw_41_3 zr_206_41 ?_ ?_
                              · intro h44
                                refine zw_6 zr_206_161 rfl ?_
                                refine zw_push zr_206_163 ?_
                                refine zw_39_4 zr_206_164 zr_206_165 ?_ ?_
                                · intro h45; omega
                                · intro h46
                                  refine zw_push zr_206_168 ?_
                                  refine zw_R zr_206_170 (by decide) zm_206 (v := (0, (-3))) rfl ?_
                                  rw [← hQ]; exact ⟨_, rfl, by omega, by omega, hI0, hF0, by omega⟩
                              · intro h48; omega
                            · intro h49
                              refine zw_5 zr_206_93 rfl ?_
                              refine zw_6 zr_206_94 rfl ?_
                              refine zw_27 zr_206_96 (by omega) ?_
                              refine zw_13 (L' := [(2, 69), (0, a0), (0, a1), (1, (0 + x41)), (9, 0), (1, 0), (9, 0), (1, 0), (9, 0), (1, 1), (9, 0), (1, 0), (9, 0), (0, (((0 + 1) + 1) + 1)), (1, x41), (9, 0), (1, x42), (9, 0)]) zr_206_97 (Nat.le_of_ble_eq_true rfl) rfl ?_
                              refine zw_6 zr_206_98 rfl ?_
                              refine zw_6 zr_206_100 rfl ?_
                              refine zw_27 zr_206_102 (by omega) ?_
                              refine zw_14 (L' := [(2, 69), (0, a0), (0, a1), (1, (0 + x41)), (9, 0), (1, (0 + x42)), (9, 0), (1, 0), (9, 0), (1, 1), (9, 0), (1, 0), (9, 0), (0, (((0 + 1) + 1) + 1)), (1, x41), (9, 0), (1, x42), (9, 0)]) zr_206_103 (Nat.le_of_ble_eq_true rfl) rfl ?_
                              refine zw_6 zr_206_105 rfl ?_
                              refine zw_6 zr_206_107 rfl ?_
                              refine zw_29 zr_206_109 (by omega) ?_
                              refine zw_7 zr_206_110 rfl ?_
                              refine zw_46r (s := 70) zr_206_111 rfl rfl rfl rfl ?_
                              refine zw_push zr_206_114 ?_
                              refine zw_4 zr_206_117 rfl ?_
                              refine zw_16 zr_206_119 (by omega) ?_
                              obtain ⟨f50, ef50⟩ : ∃ v, m0 70 821 = v := ⟨_, rfl⟩
                              have bf50 : 1 ≤ m0 70 821 ∧ m0 70 821 ≤ 9 := ib_70_weight hI0 (by omega)
                              rw [ef50] at bf50
                              refine zw_48k (c := 70) (len := 826) zr_206_120 rfl rfl (by omega) (by omega) (show ((818 + (((0 + 1) + 1) + 1)) : Int).toNat = 821 by omega) ef50 ?_
                              refine zw_36 zr_206_121 ?_
                              refine zw_6 zr_206_122 rfl ?_
                              refine zw_29h zr_206_124 ?_
                              intro x51 hx51a hx51b
                              refine zw_6 zr_206_125 rfl ?_
                              refine zw_29 zr_206_127 (by omega) ?_
                              refine zw_27 zr_206_128 (by omega) ?_
                              refine zw_14 (L' := [(2, 69), (0, a0), (0, a1), (1, (0 + x41)), (9, 0), (1, (0 + x42)), (9, 0), (1, ((0 * x42) + (x51 * 1))), (9, 0), (1, 1), (9, 0), (1, 0), (9, 0), (0, (((0 + 1) + 1) + 1)), (1, x41), (9, 0), (1, x42), (9, 0)]) zr_206_129 (Nat.le_of_ble_eq_true rfl) rfl ?_
                              refine zw_6 zr_206_131 rfl ?_
                              refine zw_6 zr_206_133 rfl ?_
                              refine zw_29 zr_206_135 (by omega) ?_
                              refine zw_14 (L' := [(2, 69), (0, a0), (0, a1), (1, (0 + x41)), (9, 0), (1, (0 + x42)), (9, 0), (1, ((0 * x42) + (x51 * 1))), (9, 0), (1, (1 * x42)), (9, 0), (1, 0), (9, 0), (0, (((0 + 1) + 1) + 1)), (1, x41), (9, 0), (1, x42), (9, 0)]) zr_206_136 (Nat.le_of_ble_eq_true rfl) rfl ?_
                              refine zw_6 zr_206_138 rfl ?_
                              refine zw_7 zr_206_140 rfl ?_
                              refine zw_46r (s := 70) zr_206_141 rfl rfl rfl rfl ?_
                              refine zw_push zr_206_144 ?_
                              refine zw_4 zr_206_147 rfl ?_
                              refine zw_16 zr_206_149 (by omega) ?_
                              refine zw_48k (c := 70) (len := 826) zr_206_150 rfl rfl (by omega) (by omega) (show ((818 + (((0 + 1) + 1) + 1)) : Int).toNat = 821 by omega) ef50 ?_
                              refine zw_36 zr_206_151 ?_
                              refine zw_27 zr_206_152 (by omega) ?_
                              refine zw_14 (L' := [(2, 69), (0, a0), (0, a1), (1, (0 + x41)), (9, 0), (1, (0 + x42)), (9, 0), (1, ((0 * x42) + (x51 * 1))), (9, 0), (1, (1 * x42)), (9, 0), (1, (0 + f50)), (9, 0), (0, (((0 + 1) + 1) + 1)), (1, x41), (9, 0), (1, x42), (9, 0)]) zr_206_153 (Nat.le_of_ble_eq_true rfl) rfl ?_
                              refine zw_15 (c := 1) (L' := [(2, 69), (0, a0), (0, a1), (1, (0 + x41)), (9, 0), (1, (0 + x42)), (9, 0), (1, ((0 * x42) + (x51 * 1))), (9, 0), (1, (1 * x42)), (9, 0), (1, (0 + f50)), (9, 0), (0, ((((0 + 1) + 1) + 1) + 1)), (1, x41), (9, 0), (1, x42), (9, 0)]) zr_206_155 rfl (by decide) (by omega) rfl ?_
                              refine zw_42 zr_206_158 ?_
                              refine zw_4 zr_206_38 rfl ?_
                              refine zw_push zr_206_40 ?_
                              refine zw_41_3 zr_206_41 ?_ ?_
                              · intro h52
                                refine zw_6 zr_206_161 rfl ?_
                                refine zw_push zr_206_163 ?_
                                refine zw_39_4 zr_206_164 zr_206_165 ?_ ?_
                                · intro h53
                                  refine zw_3 zr_206_171 rfl ?_
                                  refine zw_40_4 zr_206_172 ?_ ?_
                                  · intro h54
                                    refine zw_7 zr_206_185 rfl ?_
                                    refine zw_6 zr_206_186 rfl ?_
                                    refine zw_6 zr_206_188 rfl ?_
                                    refine zw_6 zr_206_190 rfl ?_
                                    refine zw_29p (A := 99) (B := 9) zr_206_192 (by omega) (by omega) (by omega) (by omega) (by decide) ?_
                                    intro x55 hx55a hx55b
                                    refine zw_C zr_206_193 (Or.inl rfl) zm_173 rfl rfl ⟨Nat.le_of_ble_eq_true rfl, Nat.le_of_ble_eq_true rfl, Nat.le_of_ble_eq_true rfl, rfl, by decide⟩ (by omega) (th_173 (d := d - 1) (by omega) hI0 (a0 := ((0 * x42) + (x51 * 1))) (a1 := x55)      (by omega) (by omega) ) ?_
                                    rintro _ m56 ⟨rfl, hIm56, gm56⟩
                                    have hFm56 : zFr W_206 m0 m56 := hF0.trans gm56 rfl
                                    have km56_70_822 : m56 70 822 = g0 := (gm56 70 822 rfl).trans hg0
                                    have km56_70_821 : m56 70 821 = f50 := (gm56 70 821 rfl).trans ef50
                                    have fm56_70 : m56 70 = F70 := (funext fun k => gm56 70 k rfl).trans hG70
                                    show zW E (d) 206 196 [(2, 69), (0, a0), (0, a1), (1, (0 + x41)), (9, 0), (1, (0 + x42)), (9, 0), (1, ((0 * x42) + (x51 * 1))), (9, 0), (1, (1 * x42)), (9, 0), (1, (0 + f50)), (9, 0), (0, ((((0 + 1) + 1) + 1) + 1)), (1, x41), (9, 0), (1, x42), (9, 0)] [] m56 Q
                                    refine zw_push zr_206_196 ?_
                                    refine zw_R zr_206_197 (by decide) zm_206 (v := (0, 1)) rfl ?_
                                    rw [← hQ]; exact ⟨_, rfl, by omega, by omega, hIm56, hFm56, by omega⟩
                                  · intro h58
                                    refine zw_7 zr_206_175 rfl ?_
                                    refine zw_5 zr_206_176 rfl ?_
                                    refine zw_6 zr_206_177 rfl ?_
                                    refine zw_C zr_206_179 (Or.inl rfl) zm_173 rfl rfl ⟨Nat.le_of_ble_eq_true rfl, Nat.le_of_ble_eq_true rfl, Nat.le_of_ble_eq_true rfl, rfl, by decide⟩ (by omega) (th_173 (d := d - 1) (by omega) hI0 (a0 := (0 + x41)) (a1 := (0 + x42))      (by omega) (by omega) ) ?_
                                    rintro _ m59 ⟨rfl, hIm59, gm59⟩
                                    have hFm59 : zFr W_206 m0 m59 := hF0.trans gm59 rfl
                                    have km59_70_822 : m59 70 822 = g0 := (gm59 70 822 rfl).trans hg0
                                    have km59_70_821 : m59 70 821 = f50 := (gm59 70 821 rfl).trans ef50
                                    have fm59_70 : m59 70 = F70 := (funext fun k => gm59 70 k rfl).trans hG70
                                    show zW E (d) 206 182 [(2, 69), (0, a0), (0, a1), (1, (0 + x41)), (9, 0), (1, (0 + x42)), (9, 0), (1, ((0 * x42) + (x51 * 1))), (9, 0), (1, (1 * x42)), (9, 0), (1, (0 + f50)), (9, 0), (0, ((((0 + 1) + 1) + 1) + 1)), (1, x41), (9, 0), (1, x42), (9, 0)] [] m59 Q
                                    refine zw_42 zr_206_182 ?_
                                    refine zw_push zr_206_196 ?_
                                    refine zw_R zr_206_197 (by decide) zm_206 (v := (0, 1)) rfl ?_
                                    rw [← hQ]; exact ⟨_, rfl, by omega, by omega, hIm59, hFm59, by omega⟩
                                · intro h61; omega
                              · intro h62; omega
                        · intro h63
                          refine zw_5 zr_206_93 rfl ?_
                          refine zw_6 zr_206_94 rfl ?_
                          refine zw_27 zr_206_96 (by omega) ?_
                          refine zw_13 (L' := [(2, 69), (0, a0), (0, a1), (1, (0 + x36)), (9, 0), (1, 0), (9, 0), (1, 0), (9, 0), (1, 1), (9, 0), (1, 0), (9, 0), (0, ((0 + 1) + 1)), (1, x36), (9, 0), (1, x37), (9, 0)]) zr_206_97 (Nat.le_of_ble_eq_true rfl) rfl ?_
                          refine zw_6 zr_206_98 rfl ?_
                          refine zw_6 zr_206_100 rfl ?_
                          refine zw_27 zr_206_102 (by omega) ?_
                          refine zw_14 (L' := [(2, 69), (0, a0), (0, a1), (1, (0 + x36)), (9, 0), (1, (0 + x37)), (9, 0), (1, 0), (9, 0), (1, 1), (9, 0), (1, 0), (9, 0), (0, ((0 + 1) + 1)), (1, x36), (9, 0), (1, x37), (9, 0)]) zr_206_103 (Nat.le_of_ble_eq_true rfl) rfl ?_
                          refine zw_6 zr_206_105 rfl ?_
                          refine zw_6 zr_206_107 rfl ?_
                          refine zw_29 zr_206_109 (by omega) ?_
                          refine zw_7 zr_206_110 rfl ?_
                          refine zw_46r (s := 70) zr_206_111 rfl rfl rfl rfl ?_
                          refine zw_push zr_206_114 ?_
                          refine zw_4 zr_206_117 rfl ?_
                          refine zw_16 zr_206_119 (by omega) ?_
                          obtain ⟨f64, ef64⟩ : ∃ v, m0 70 820 = v := ⟨_, rfl⟩
                          have bf64 : 1 ≤ m0 70 820 ∧ m0 70 820 ≤ 9 := ib_70_weight hI0 (by omega)
                          rw [ef64] at bf64
                          refine zw_48k (c := 70) (len := 826) zr_206_120 rfl rfl (by omega) (by omega) (show ((818 + ((0 + 1) + 1)) : Int).toNat = 820 by omega) ef64 ?_
                          refine zw_36 zr_206_121 ?_
                          refine zw_6 zr_206_122 rfl ?_
                          refine zw_29h zr_206_124 ?_
                          intro x65 hx65a hx65b
                          refine zw_6 zr_206_125 rfl ?_
                          refine zw_29 zr_206_127 (by omega) ?_
                          refine zw_27 zr_206_128 (by omega) ?_
                          refine zw_14 (L' := [(2, 69), (0, a0), (0, a1), (1, (0 + x36)), (9, 0), (1, (0 + x37)), (9, 0), (1, ((0 * x37) + (x65 * 1))), (9, 0), (1, 1), (9, 0), (1, 0), (9, 0), (0, ((0 + 1) + 1)), (1, x36), (9, 0), (1, x37), (9, 0)]) zr_206_129 (Nat.le_of_ble_eq_true rfl) rfl ?_
                          refine zw_6 zr_206_131 rfl ?_
                          refine zw_6 zr_206_133 rfl ?_
                          refine zw_29 zr_206_135 (by omega) ?_
                          refine zw_14 (L' := [(2, 69), (0, a0), (0, a1), (1, (0 + x36)), (9, 0), (1, (0 + x37)), (9, 0), (1, ((0 * x37) + (x65 * 1))), (9, 0), (1, (1 * x37)), (9, 0), (1, 0), (9, 0), (0, ((0 + 1) + 1)), (1, x36), (9, 0), (1, x37), (9, 0)]) zr_206_136 (Nat.le_of_ble_eq_true rfl) rfl ?_
                          refine zw_6 zr_206_138 rfl ?_
                          refine zw_7 zr_206_140 rfl ?_
                          refine zw_46r (s := 70) zr_206_141 rfl rfl rfl rfl ?_
                          refine zw_push zr_206_144 ?_
                          refine zw_4 zr_206_147 rfl ?_
                          refine zw_16 zr_206_149 (by omega) ?_
                          refine zw_48k (c := 70) (len := 826) zr_206_150 rfl rfl (by omega) (by omega) (show ((818 + ((0 + 1) + 1)) : Int).toNat = 820 by omega) ef64 ?_
                          refine zw_36 zr_206_151 ?_
                          refine zw_27 zr_206_152 (by omega) ?_
                          refine zw_14 (L' := [(2, 69), (0, a0), (0, a1), (1, (0 + x36)), (9, 0), (1, (0 + x37)), (9, 0), (1, ((0 * x37) + (x65 * 1))), (9, 0), (1, (1 * x37)), (9, 0), (1, (0 + f64)), (9, 0), (0, ((0 + 1) + 1)), (1, x36), (9, 0), (1, x37), (9, 0)]) zr_206_153 (Nat.le_of_ble_eq_true rfl) rfl ?_
                          refine zw_15 (c := 1) (L' := [(2, 69), (0, a0), (0, a1), (1, (0 + x36)), (9, 0), (1, (0 + x37)), (9, 0), (1, ((0 * x37) + (x65 * 1))), (9, 0), (1, (1 * x37)), (9, 0), (1, (0 + f64)), (9, 0), (0, (((0 + 1) + 1) + 1)), (1, x36), (9, 0), (1, x37), (9, 0)]) zr_206_155 rfl (by decide) (by omega) rfl ?_
                          refine zw_42 zr_206_158 ?_
                          refine zw_4 zr_206_38 rfl ?_
                          refine zw_push zr_206_40 ?_
                          refine zw_41_3 zr_206_41 ?_ ?_
                          · intro h66; omega
                          · intro h67
                            refine zw_7 zr_206_44 rfl ?_
                            refine zw_46r (s := 70) zr_206_45 rfl rfl rfl rfl ?_
                            refine zw_push zr_206_48 ?_
                            refine zw_push zr_206_50 ?_
                            refine zw_3 zr_206_52 rfl ?_
                            refine zw_18 zr_206_53 (by omega) ?_
                            refine zw_16 zr_206_54 (by omega) ?_
                            refine zw_push zr_206_55 ?_
                            refine zw_4 zr_206_56 rfl ?_
                            refine zw_18 zr_206_58 (by omega) ?_
                            refine zw_16 zr_206_59 (by omega) ?_
                            refine zw_48 (c := 70) (len := 826) zr_206_60 rfl rfl (by omega) (by omega) ?_
                            intro x68 ex68
                            have bx68 := ib_70_moves hI0 (k := (((10 + (8 * a0)) + (2 * (((0 + 1) + 1) + 1)))).toNat) (by omega)
                            rw [← ex68] at bx68
                            have qx68 : x68 = F70 (((10 + (8 * a0)) + (2 * (((0 + 1) + 1) + 1)))).toNat := by rw [← hG70]; exact ex68
                            clear ex68
                            refine zw_36 zr_206_61 ?_
                            refine zw_14 (L' := [(2, 69), (0, a0), (0, a1), (1, (0 + x36)), (9, 0), (1, (0 + x37)), (9, 0), (1, ((0 * x37) + (x65 * 1))), (9, 0), (1, (1 * x37)), (9, 0), (1, (0 + f64)), (9, 0), (0, (((0 + 1) + 1) + 1)), (1, x68), (9, 0), (1, x37), (9, 0)]) zr_206_62 (Nat.le_of_ble_eq_true rfl) rfl ?_
                            refine zw_7 zr_206_64 rfl ?_
                            refine zw_46r (s := 70) zr_206_65 rfl rfl rfl rfl ?_
                            refine zw_push zr_206_68 ?_
                            refine zw_push zr_206_70 ?_
                            refine zw_3 zr_206_72 rfl ?_
                            refine zw_18 zr_206_73 (by omega) ?_
                            refine zw_16 zr_206_74 (by omega) ?_
                            refine zw_push zr_206_75 ?_
                            refine zw_4 zr_206_76 rfl ?_
                            refine zw_18 zr_206_78 (by omega) ?_
                            refine zw_16 zr_206_79 (by omega) ?_
                            refine zw_push zr_206_80 ?_
                            refine zw_16 zr_206_81 (by omega) ?_
                            refine zw_48 (c := 70) (len := 826) zr_206_82 rfl rfl (by omega) (by omega) ?_
                            intro x69 ex69
                            have bx69 := ib_70_moves hI0 (k := ((((10 + (8 * a0)) + (2 * (((0 + 1) + 1) + 1))) + 1)).toNat) (by omega)
                            rw [← ex69] at bx69
                            have qx69 : x69 = F70 ((((10 + (8 * a0)) + (2 * (((0 + 1) + 1) + 1))) + 1)).toNat := by rw [← hG70]; exact ex69
                            clear ex69
                            refine zw_36 zr_206_83 ?_
                            refine zw_14 (L' := [(2, 69), (0, a0), (0, a1), (1, (0 + x36)), (9, 0), (1, (0 + x37)), (9, 0), (1, ((0 * x37) + (x65 * 1))), (9, 0), (1, (1 * x37)), (9, 0), (1, (0 + f64)), (9, 0), (0, (((0 + 1) + 1) + 1)), (1, x68), (9, 0), (1, x69), (9, 0)]) zr_206_84 (Nat.le_of_ble_eq_true rfl) rfl ?_
                            refine zw_6 zr_206_86 rfl ?_
                            refine zw_push zr_206_88 ?_
                            refine zw_39_5 zr_206_89 zr_206_90 ?_ ?_
                            · intro h70
                              refine zw_15 (c := 1) (L' := [(2, 69), (0, a0), (0, a1), (1, (0 + x36)), (9, 0), (1, (0 + x37)), (9, 0), (1, ((0 * x37) + (x65 * 1))), (9, 0), (1, (1 * x37)), (9, 0), (1, (0 + f64)), (9, 0), (0, ((((0 + 1) + 1) + 1) + 1)), (1, x68), (9, 0), (1, x69), (9, 0)]) zr_206_155 rfl (by decide) (by omega) rfl ?_
                              refine zw_42 zr_206_158 ?_
                              refine zw_4 zr_206_38 rfl ?_
                              refine zw_push zr_206_40 ?_
                              refine zw_41_3 zr_206_41 ?_ ?_
                              · intro h71
                                refine zw_6 zr_206_161 rfl ?_
                                refine zw_push zr_206_163 ?_
                                refine zw_39_4 zr_206_164 zr_206_165 ?_ ?_
                                · intro h72
                                  refine zw_3 zr_206_171 rfl ?_
                                  refine zw_40_4 zr_206_172 ?_ ?_
                                  · intro h73
                                    refine zw_7 zr_206_185 rfl ?_
                                    refine zw_6 zr_206_186 rfl ?_
                                    refine zw_6 zr_206_188 rfl ?_
                                    refine zw_6 zr_206_190 rfl ?_
                                    refine zw_29p (A := 99) (B := 9) zr_206_192 (by omega) (by omega) (by omega) (by omega) (by decide) ?_
                                    intro x74 hx74a hx74b
                                    refine zw_C zr_206_193 (Or.inl rfl) zm_173 rfl rfl ⟨Nat.le_of_ble_eq_true rfl, Nat.le_of_ble_eq_true rfl, Nat.le_of_ble_eq_true rfl, rfl, by decide⟩ (by omega) (th_173 (d := d - 1) (by omega) hI0 (a0 := ((0 * x37) + (x65 * 1))) (a1 := x74)      (by omega) (by omega) ) ?_
                                    rintro _ m75 ⟨rfl, hIm75, gm75⟩
                                    have hFm75 : zFr W_206 m0 m75 := hF0.trans gm75 rfl
                                    have km75_70_822 : m75 70 822 = g0 := (gm75 70 822 rfl).trans hg0
                                    have km75_70_820 : m75 70 820 = f64 := (gm75 70 820 rfl).trans ef64
                                    have fm75_70 : m75 70 = F70 := (funext fun k => gm75 70 k rfl).trans hG70
                                    show zW E (d) 206 196 [(2, 69), (0, a0), (0, a1), (1, (0 + x36)), (9, 0), (1, (0 + x37)), (9, 0), (1, ((0 * x37) + (x65 * 1))), (9, 0), (1, (1 * x37)), (9, 0), (1, (0 + f64)), (9, 0), (0, ((((0 + 1) + 1) + 1) + 1)), (1, x68), (9, 0), (1, x69), (9, 0)] [] m75 Q
                                    refine zw_push zr_206_196 ?_
                                    refine zw_R zr_206_197 (by decide) zm_206 (v := (0, 1)) rfl ?_
                                    rw [← hQ]; exact ⟨_, rfl, by omega, by omega, hIm75, hFm75, by omega⟩
                                  · intro h77
                                    refine zw_7 zr_206_175 rfl ?_
                                    refine zw_5 zr_206_176 rfl ?_
                                    refine zw_6 zr_206_177 rfl ?_
                                    refine zw_C zr_206_179 (Or.inl rfl) zm_173 rfl rfl ⟨Nat.le_of_ble_eq_true rfl, Nat.le_of_ble_eq_true rfl, Nat.le_of_ble_eq_true rfl, rfl, by decide⟩ (by omega) (th_173 (d := d - 1) (by omega) hI0 (a0 := (0 + x36)) (a1 := (0 + x37))      (by omega) (by omega) ) ?_
                                    rintro _ m78 ⟨rfl, hIm78, gm78⟩
                                    have hFm78 : zFr W_206 m0 m78 := hF0.trans gm78 rfl
                                    have km78_70_822 : m78 70 822 = g0 := (gm78 70 822 rfl).trans hg0
                                    have km78_70_820 : m78 70 820 = f64 := (gm78 70 820 rfl).trans ef64
                                    have fm78_70 : m78 70 = F70 := (funext fun k => gm78 70 k rfl).trans hG70
                                    show zW E (d) 206 182 [(2, 69), (0, a0), (0, a1), (1, (0 + x36)), (9, 0), (1, (0 + x37)), (9, 0), (1, ((0 * x37) + (x65 * 1))), (9, 0), (1, (1 * x37)), (9, 0), (1, (0 + f64)), (9, 0), (0, ((((0 + 1) + 1) + 1) + 1)), (1, x68), (9, 0), (1, x69), (9, 0)] [] m78 Q
                                    refine zw_42 zr_206_182 ?_
                                    refine zw_push zr_206_196 ?_
                                    refine zw_R zr_206_197 (by decide) zm_206 (v := (0, 1)) rfl ?_
                                    rw [← hQ]; exact ⟨_, rfl, by omega, by omega, hIm78, hFm78, by omega⟩
                                · intro h80; omega
                              · intro h81; omega
                            · intro h82
                              refine zw_5 zr_206_93 rfl ?_
                              refine zw_6 zr_206_94 rfl ?_
                              refine zw_27 zr_206_96 (by omega) ?_
                              refine zw_13 (L' := [(2, 69), (0, a0), (0, a1), (1, ((0 + x36) + x68)), (9, 0), (1, (0 + x37)), (9, 0), (1, ((0 * x37) + (x65 * 1))), (9, 0), (1, (1 * x37)), (9, 0), (1, (0 + f64)), (9, 0), (0, (((0 + 1) + 1) + 1)), (1, x68), (9, 0), (1, x69), (9, 0)]) zr_206_97 (Nat.le_of_ble_eq_true rfl) rfl ?_
                              refine zw_6 zr_206_98 rfl ?_
                              refine zw_6 zr_206_100 rfl ?_
                              refine zw_27 zr_206_102 (by omega) ?_
                              refine zw_14 (L' := [(2, 69), (0, a0), (0, a1), (1, ((0 + x36) + x68)), (9, 0), (1, ((0 + x37) + x69)), (9, 0), (1, ((0 * x37) + (x65 * 1))), (9, 0), (1, (1 * x37)), (9, 0), (1, (0 + f64)), (9, 0), (0, (((0 + 1) + 1) + 1)), (1, x68), (9, 0), (1, x69), (9, 0)]) zr_206_103 (Nat.le_of_ble_eq_true rfl) rfl ?_
                              refine zw_6 zr_206_105 rfl ?_
                              refine zw_6 zr_206_107 rfl ?_
                              refine zw_29h zr_206_109 ?_
                              intro x83 hx83a hx83b
                              refine zw_7 zr_206_110 rfl ?_
                              refine zw_46r (s := 70) zr_206_111 rfl rfl rfl rfl ?_
                              refine zw_push zr_206_114 ?_
                              refine zw_4 zr_206_117 rfl ?_
                              refine zw_16 zr_206_119 (by omega) ?_
                              obtain ⟨f84, ef84⟩ : ∃ v, m0 70 821 = v := ⟨_, rfl⟩
                              have bf84 : 1 ≤ m0 70 821 ∧ m0 70 821 ≤ 9 := ib_70_weight hI0 (by omega)
                              rw [ef84] at bf84
                              refine zw_48k (c := 70) (len := 826) zr_206_120 rfl rfl (by omega) (by omega) (show ((818 + (((0 + 1) + 1) + 1)) : Int).toNat = 821 by omega) ef84 ?_
                              refine zw_36 zr_206_121 ?_
                              refine zw_6 zr_206_122 rfl ?_
                              refine zw_29h zr_206_124 ?_
                              intro x85 hx85a hx85b
                              refine zw_6 zr_206_125 rfl ?_
                              refine zw_29h zr_206_127 ?_
                              intro x86 hx86a hx86b
                              refine zw_27h zr_206_128 ?_
                              intro x87 hx87a hx87b
                              refine zw_14 (L' := [(2, 69), (0, a0), (0, a1), (1, ((0 + x36) + x68)), (9, 0), (1, ((0 + x37) + x69)), (9, 0), (1, x87), (9, 0), (1, (1 * x37)), (9, 0), (1, (0 + f64)), (9, 0), (0, (((0 + 1) + 1) + 1)), (1, x68), (9, 0), (1, x69), (9, 0)]) zr_206_129 (Nat.le_of_ble_eq_true rfl) rfl ?_
                              refine zw_6 zr_206_131 rfl ?_
                              refine zw_6 zr_206_133 rfl ?_
                              refine zw_29p (A := 99) (B := 99) zr_206_135 (by omega) (by omega) (by omega) (by omega) (by decide) ?_
                              intro x88 hx88a hx88b
                              refine zw_14 (L' := [(2, 69), (0, a0), (0, a1), (1, ((0 + x36) + x68)), (9, 0), (1, ((0 + x37) + x69)), (9, 0), (1, x87), (9, 0), (1, x88), (9, 0), (1, (0 + f64)), (9, 0), (0, (((0 + 1) + 1) + 1)), (1, x68), (9, 0), (1, x69), (9, 0)]) zr_206_136 (Nat.le_of_ble_eq_true rfl) rfl ?_
                              refine zw_6 zr_206_138 rfl ?_
                              refine zw_7 zr_206_140 rfl ?_
                              refine zw_46r (s := 70) zr_206_141 rfl rfl rfl rfl ?_
                              refine zw_push zr_206_144 ?_
                              refine zw_4 zr_206_147 rfl ?_
                              refine zw_16 zr_206_149 (by omega) ?_
                              refine zw_48k (c := 70) (len := 826) zr_206_150 rfl rfl (by omega) (by omega) (show ((818 + (((0 + 1) + 1) + 1)) : Int).toNat = 821 by omega) ef84 ?_
                              refine zw_36 zr_206_151 ?_
                              refine zw_27 zr_206_152 (by omega) ?_
                              refine zw_14 (L' := [(2, 69), (0, a0), (0, a1), (1, ((0 + x36) + x68)), (9, 0), (1, ((0 + x37) + x69)), (9, 0), (1, x87), (9, 0), (1, x88), (9, 0), (1, ((0 + f64) + f84)), (9, 0), (0, (((0 + 1) + 1) + 1)), (1, x68), (9, 0), (1, x69), (9, 0)]) zr_206_153 (Nat.le_of_ble_eq_true rfl) rfl ?_
                              refine zw_15 (c := 1) (L' := [(2, 69), (0, a0), (0, a1), (1, ((0 + x36) + x68)), (9, 0), (1, ((0 + x37) + x69)), (9, 0), (1, x87), (9, 0), (1, x88), (9, 0), (1, ((0 + f64) + f84)), (9, 0), (0, ((((0 + 1) + 1) + 1) + 1)), (1, x68), (9, 0), (1, x69), (9, 0)]) zr_206_155 rfl (by decide) (by omega) rfl ?_
                              refine zw_42 zr_206_158 ?_
                              refine zw_4 zr_206_38 rfl ?_
                              refine zw_push zr_206_40 ?_
                              refine zw_41_3 zr_206_41 ?_ ?_
                              · intro h89
                                refine zw_6 zr_206_161 rfl ?_
                                refine zw_push zr_206_163 ?_
                                refine zw_39_4 zr_206_164 zr_206_165 ?_ ?_
                                · intro h90
                                  refine zw_3 zr_206_171 rfl ?_
                                  refine zw_40_4 zr_206_172 ?_ ?_
                                  · intro h91
                                    refine zw_7 zr_206_185 rfl ?_
                                    refine zw_6 zr_206_186 rfl ?_
                                    refine zw_6 zr_206_188 rfl ?_
                                    refine zw_6 zr_206_190 rfl ?_
                                    refine zw_29p (A := 9801) (B := 18) zr_206_192 (by omega) (by omega) (by omega) (by omega) (by decide) ?_
                                    intro x92 hx92a hx92b
                                    refine zw_C zr_206_193 (Or.inl rfl) zm_173 rfl rfl ⟨Nat.le_of_ble_eq_true rfl, Nat.le_of_ble_eq_true rfl, Nat.le_of_ble_eq_true rfl, rfl, by decide⟩ (by omega) (th_173 (d := d - 1) (by omega) hI0 (a0 := x87) (a1 := x92)      (by omega) (by omega) ) ?_
                                    rintro _ m93 ⟨rfl, hIm93, gm93⟩
                                    have hFm93 : zFr W_206 m0 m93 := hF0.trans gm93 rfl
                                    have km93_70_822 : m93 70 822 = g0 := (gm93 70 822 rfl).trans hg0
                                    have km93_70_820 : m93 70 820 = f64 := (gm93 70 820 rfl).trans ef64
                                    have km93_70_821 : m93 70 821 = f84 := (gm93 70 821 rfl).trans ef84
                                    have fm93_70 : m93 70 = F70 := (funext fun k => gm93 70 k rfl).trans hG70
                                    show zW E (d) 206 196 [(2, 69), (0, a0), (0, a1), (1, ((0 + x36) + x68)), (9, 0), (1, ((0 + x37) + x69)), (9, 0), (1, x87), (9, 0), (1, x88), (9, 0), (1, ((0 + f64) + f84)), (9, 0), (0, ((((0 + 1) + 1) + 1) + 1)), (1, x68), (9, 0), (1, x69), (9, 0)] [] m93 Q
                                    refine zw_push zr_206_196 ?_
                                    refine zw_R zr_206_197 (by decide) zm_206 (v := (0, 1)) rfl ?_
                                    rw [← hQ]; exact ⟨_, rfl, by omega, by omega, hIm93, hFm93, by omega⟩
                                  · intro h95
                                    refine zw_7 zr_206_175 rfl ?_
                                    refine zw_5 zr_206_176 rfl ?_
                                    refine zw_6 zr_206_177 rfl ?_
                                    refine zw_C zr_206_179 (Or.inl rfl) zm_173 rfl rfl ⟨Nat.le_of_ble_eq_true rfl, Nat.le_of_ble_eq_true rfl, Nat.le_of_ble_eq_true rfl, rfl, by decide⟩ (by omega) (th_173 (d := d - 1) (by omega) hI0 (a0 := ((0 + x36) + x68)) (a1 := ((0 + x37) + x69))      (by omega) (by omega) ) ?_
                                    rintro _ m96 ⟨rfl, hIm96, gm96⟩
                                    have hFm96 : zFr W_206 m0 m96 := hF0.trans gm96 rfl
                                    have km96_70_822 : m96 70 822 = g0 := (gm96 70 822 rfl).trans hg0
                                    have km96_70_820 : m96 70 820 = f64 := (gm96 70 820 rfl).trans ef64
                                    have km96_70_821 : m96 70 821 = f84 := (gm96 70 821 rfl).trans ef84
                                    have fm96_70 : m96 70 = F70 := (funext fun k => gm96 70 k rfl).trans hG70
                                    show zW E (d) 206 182 [(2, 69), (0, a0), (0, a1), (1, ((0 + x36) + x68)), (9, 0), (1, ((0 + x37) + x69)), (9, 0), (1, x87), (9, 0), (1, x88), (9, 0), (1, ((0 + f64) + f84)), (9, 0), (0, ((((0 + 1) + 1) + 1) + 1)), (1, x68), (9, 0), (1, x69), (9, 0)] [] m96 Q
                                    refine zw_42 zr_206_182 ?_
                                    refine zw_push zr_206_196 ?_
                                    refine zw_R zr_206_197 (by decide) zm_206 (v := (0, 1)) rfl ?_
                                    rw [← hQ]; exact ⟨_, rfl, by omega, by omega, hIm96, hFm96, by omega⟩
                                · intro h98; omega
                              · intro h99; omega
                    · intro h100
                      refine zw_5 zr_206_93 rfl ?_
                      refine zw_6 zr_206_94 rfl ?_
                      refine zw_27 zr_206_96 (by omega) ?_
                      refine zw_13 (L' := [(2, 69), (0, a0), (0, a1), (1, (0 + x31)), (9, 0), (1, 0), (9, 0), (1, 0), (9, 0), (1, 1), (9, 0), (1, 0), (9, 0), (0, (0 + 1)), (1, x31), (9, 0), (1, x32), (9, 0)]) zr_206_97 (Nat.le_of_ble_eq_true rfl) rfl ?_
                      refine zw_6 zr_206_98 rfl ?_
                      refine zw_6 zr_206_100 rfl ?_
                      refine zw_27 zr_206_102 (by omega) ?_
                      refine zw_14 (L' := [(2, 69), (0, a0), (0, a1), (1, (0 + x31)), (9, 0), (1, (0 + x32)), (9, 0), (1, 0), (9, 0), (1, 1), (9, 0), (1, 0), (9, 0), (0, (0 + 1)), (1, x31), (9, 0), (1, x32), (9, 0)]) zr_206_103 (Nat.le_of_ble_eq_true rfl) rfl ?_
                      refine zw_6 zr_206_105 rfl ?_
                      refine zw_6 zr_206_107 rfl ?_
                      refine zw_29 zr_206_109 (by omega) ?_
                      refine zw_7 zr_206_110 rfl ?_
                      refine zw_46r (s := 70) zr_206_111 rfl rfl rfl rfl ?_
                      refine zw_push zr_206_114 ?_
                      refine zw_4 zr_206_117 rfl ?_
                      refine zw_16 zr_206_119 (by omega) ?_
                      obtain ⟨f101, ef101⟩ : ∃ v, m0 70 819 = v := ⟨_, rfl⟩
                      have bf101 : 1 ≤ m0 70 819 ∧ m0 70 819 ≤ 9 := ib_70_weight hI0 (by omega)
                      rw [ef101] at bf101
                      refine zw_48k (c := 70) (len := 826) zr_206_120 rfl rfl (by omega) (by omega) (show ((818 + (0 + 1)) : Int).toNat = 819 by omega) ef101 ?_
                      refine zw_36 zr_206_121 ?_
                      refine zw_6 zr_206_122 rfl ?_
                      refine zw_29h zr_206_124 ?_
                      intro x102 hx102a hx102b
                      refine zw_6 zr_206_125 rfl ?_
                      refine zw_29 zr_206_127 (by omega) ?_
                      refine zw_27 zr_206_128 (by omega) ?_
                      refine zw_14 (L' := [(2, 69), (0, a0), (0, a1), (1, (0 + x31)), (9, 0), (1, (0 + x32)), (9, 0), (1, ((0 * x32) + (x102 * 1))), (9, 0), (1, 1), (9, 0), (1, 0), (9, 0), (0, (0 + 1)), (1, x31), (9, 0), (1, x32), (9, 0)]) zr_206_129 (Nat.le_of_ble_eq_true rfl) rfl ?_
                      refine zw_6 zr_206_131 rfl ?_
                      refine zw_6 zr_206_133 rfl ?_
                      refine zw_29 zr_206_135 (by omega) ?_
                      refine zw_14 (L' := [(2, 69), (0, a0), (0, a1), (1, (0 + x31)), (9, 0), (1, (0 + x32)), (9, 0), (1, ((0 * x32) + (x102 * 1))), (9, 0), (1, (1 * x32)), (9, 0), (1, 0), (9, 0), (0, (0 + 1)), (1, x31), (9, 0), (1, x32), (9, 0)]) zr_206_136 (Nat.le_of_ble_eq_true rfl) rfl ?_
                      refine zw_6 zr_206_138 rfl ?_
                      refine zw_7 zr_206_140 rfl ?_
                      refine zw_46r (s := 70) zr_206_141 rfl rfl rfl rfl ?_
                      refine zw_push zr_206_144 ?_
                      refine zw_4 zr_206_147 rfl ?_
                      refine zw_16 zr_206_149 (by omega) ?_
                      refine zw_48k (c := 70) (len := 826) zr_206_150 rfl rfl (by omega) (by omega) (show ((818 + (0 + 1)) : Int).toNat = 819 by omega) ef101 ?_
                      refine zw_36 zr_206_151 ?_
                      refine zw_27 zr_206_152 (by omega) ?_
                      refine zw_14 (L' := [(2, 69), (0, a0), (0, a1), (1, (0 + x31)), (9, 0), (1, (0 + x32)), (9, 0), (1, ((0 * x32) + (x102 * 1))), (9, 0), (1, (1 * x32)), (9, 0), (1, (0 + f101)), (9, 0), (0, (0 + 1)), (1, x31), (9, 0), (1, x32), (9, 0)]) zr_206_153 (Nat.le_of_ble_eq_true rfl) rfl ?_
                      refine zw_15 (c := 1) (L' := [(2, 69), (0, a0), (0, a1), (1, (0 + x31)), (9, 0), (1, (0 + x32)), (9, 0), (1, ((0 * x32) + (x102 * 1))), (9, 0), (1, (1 * x32)), (9, 0), (1, (0 + f101)), (9, 0), (0, ((0 + 1) + 1)), (1, x31), (9, 0), (1, x32), (9, 0)]) zr_206_155 rfl (by decide) (by omega) rfl ?_
                      refine zw_42 zr_206_158 ?_
                      refine zw_4 zr_206_38 rfl ?_
                      refine zw_push zr_206_40 ?_
                      refine zw_41_3 zr_206_41 ?_ ?_
                      · intro h103; omega
                      · intro h104
                        refine zw_7 zr_206_44 rfl ?_
                        refine zw_46r (s := 70) zr_206_45 rfl rfl rfl rfl ?_
                        refine zw_push zr_206_48 ?_
                        refine zw_push zr_206_50 ?_
                        refine zw_3 zr_206_52 rfl ?_
                        refine zw_18 zr_206_53 (by omega) ?_
                        refine zw_16 zr_206_54 (by omega) ?_
                        refine zw_push zr_206_55 ?_
                        refine zw_4 zr_206_56 rfl ?_
                        refine zw_18 zr_206_58 (by omega) ?_
                        refine zw_16 zr_206_59 (by omega) ?_
                        refine zw_48 (c := 70) (len := 826) zr_206_60 rfl rfl (by omega) (by omega) ?_
                        intro x105 ex105
                        have bx105 := ib_70_moves hI0 (k := (((10 + (8 * a0)) + (2 * ((0 + 1) + 1)))).toNat) (by omega)
                        rw [← ex105] at bx105
                        have qx105 : x105 = F70 (((10 + (8 * a0)) + (2 * ((0 + 1) + 1)))).toNat := by rw [← hG70]; exact ex105
                        clear ex105
                        refine zw_36 zr_206_61 ?_
                        refine zw_14 (L' := [(2, 69), (0, a0), (0, a1), (1, (0 + x31)), (9, 0), (1, (0 + x32)), (9, 0), (1, ((0 * x32) + (x102 * 1))), (9, 0), (1, (1 * x32)), (9, 0), (1, (0 + f101)), (9, 0), (0, ((0 + 1) + 1)), (1, x105), (9, 0), (1, x32), (9, 0)]) zr_206_62 (Nat.le_of_ble_eq_true rfl) rfl ?_
                        refine zw_7 zr_206_64 rfl ?_
                        refine zw_46r (s := 70) zr_206_65 rfl rfl rfl rfl ?_
                        refine zw_push zr_206_68 ?_
                        refine zw_push zr_206_70 ?_
                        refine zw_3 zr_206_72 rfl ?_
                        refine zw_18 zr_206_73 (by omega) ?_
                        refine zw_16 zr_206_74 (by omega) ?_
                        refine zw_push zr_206_75 ?_
                        refine zw_4 zr_206_76 rfl ?_
                        refine zw_18 zr_206_78 (by omega) ?_
                        refine zw_16 zr_206_79 (by omega) ?_
                        refine zw_push zr_206_80 ?_
                        refine zw_16 zr_206_81 (by omega) ?_
                        refine zw_48 (c := 70) (len := 826) zr_206_82 rfl rfl (by omega) (by omega) ?_
                        intro x106 ex106
                        have bx106 := ib_70_moves hI0 (k := ((((10 + (8 * a0)) + (2 * ((0 + 1) + 1))) + 1)).toNat) (by omega)
                        rw [← ex106] at bx106
                        have qx106 : x106 = F70 ((((10 + (8 * a0)) + (2 * ((0 + 1) + 1))) + 1)).toNat := by rw [← hG70]; exact ex106
                        clear ex106
                        refine zw_36 zr_206_83 ?_
                        refine zw_14 (L' := [(2, 69), (0, a0), (0, a1), (1, (0 + x31)), (9, 0), (1, (0 + x32)), (9, 0), (1, ((0 * x32) + (x102 * 1))), (9, 0), (1, (1 * x32)), (9, 0), (1, (0 + f101)), (9, 0), (0, ((0 + 1) + 1)), (1, x105), (9, 0), (1, x106), (9, 0)]) zr_206_84 (Nat.le_of_ble_eq_true rfl) rfl ?_
                        refine zw_6 zr_206_86 rfl ?_
                        refine zw_push zr_206_88 ?_
                        refine zw_39_5 zr_206_89 zr_206_90 ?_ ?_
                        · intro h107
                          refine zw_15 (c := 1) (L' := [(2, 69), (0, a0), (0, a1), (1, (0 + x31)), (9, 0), (1, (0 + x32)), (9, 0), (1, ((0 * x32) + (x102 * 1))), (9, 0), (1, (1 * x32)), (9, 0), (1, (0 + f101)), (9, 0), (0, (((0 + 1) + 1) + 1)), (1, x105), (9, 0), (1, x106), (9, 0)]) zr_206_155 rfl (by decide) (by omega) rfl ?_
                          refine zw_42 zr_206_158 ?_
                          refine zw_4 zr_206_38 rfl ?_
                          refine zw_push zr_206_40 ?_
                          refine zw_41_3 zr_206_41 ?_ ?_
                          · intro h108; omega
                          · intro h109
                            refine zw_7 zr_206_44 rfl ?_
                            refine zw_46r (s := 70) zr_206_45 rfl rfl rfl rfl ?_
                            refine zw_push zr_206_48 ?_
                            refine zw_push zr_206_50 ?_
                            refine zw_3 zr_206_52 rfl ?_
                            refine zw_18 zr_206_53 (by omega) ?_
                            refine zw_16 zr_206_54 (by omega) ?_
                            refine zw_push zr_206_55 ?_
                            refine zw_4 zr_206_56 rfl ?_
                            refine zw_18 zr_206_58 (by omega) ?_
                            refine zw_16 zr_206_59 (by omega) ?_
                            refine zw_48 (c := 70) (len := 826) zr_206_60 rfl rfl (by omega) (by omega) ?_
                            intro x110 ex110
                            have bx110 := ib_70_moves hI0 (k := (((10 + (8 * a0)) + (2 * (((0 + 1) + 1) + 1)))).toNat) (by omega)
                            rw [← ex110] at bx110
                            have qx110 : x110 = F70 (((10 + (8 * a0)) + (2 * (((0 + 1) + 1) + 1)))).toNat := by rw [← hG70]; exact ex110
                            clear ex110
                            refine zw_36 zr_206_61 ?_
                            refine zw_14 (L' := [(2, 69), (0, a0), (0, a1), (1, (0 + x31)), (9, 0), (1, (0 + x32)), (9, 0), (1, ((0 * x32) + (x102 * 1))), (9, 0), (1, (1 * x32)), (9, 0), (1, (0 + f101)), (9, 0), (0, (((0 + 1) + 1) + 1)), (1, x110), (9, 0), (1, x106), (9, 0)]) zr_206_62 (Nat.le_of_ble_eq_true rfl) rfl ?_
                            refine zw_7 zr_206_64 rfl ?_
                            refine zw_46r (s := 70) zr_206_65 rfl rfl rfl rfl ?_
                            refine zw_push zr_206_68 ?_
                            refine zw_push zr_206_70 ?_
                            refine zw_3 zr_206_72 rfl ?_
                            refine zw_18 zr_206_73 (by omega) ?_
                            refine zw_16 zr_206_74 (by omega) ?_
                            refine zw_push zr_206_75 ?_
                            refine zw_4 zr_206_76 rfl ?_
                            refine zw_18 zr_206_78 (by omega) ?_
                            refine zw_16 zr_206_79 (by omega) ?_
                            refine zw_push zr_206_80 ?_
                            refine zw_16 zr_206_81 (by omega) ?_
                            refine zw_48 (c := 70) (len := 826) zr_206_82 rfl rfl (by omega) (by omega) ?_
                            intro x111 ex111
                            have bx111 := ib_70_moves hI0 (k := ((((10 + (8 * a0)) + (2 * (((0 + 1) + 1) + 1))) + 1)).toNat) (by omega)
                            rw [← ex111] at bx111
                            have qx111 : x111 = F70 ((((10 + (8 * a0)) + (2 * (((0 + 1) + 1) + 1))) + 1)).toNat := by rw [← hG70]; exact ex111
                            clear ex111
                            refine zw_36 zr_206_83 ?_
                            refine zw_14 (L' := [(2, 69), (0, a0), (0, a1), (1, (0 + x31)), (9, 0), (1, (0 + x32)), (9, 0), (1, ((0 * x32) + (x102 * 1))), (9, 0), (1, (1 * x32)), (9, 0), (1, (0 + f101)), (9, 0), (0, (((0 + 1) + 1) + 1)), (1, x110), (9, 0), (1, x111), (9, 0)]) zr_206_84 (Nat.le_of_ble_eq_true rfl) rfl ?_
                            refine zw_6 zr_206_86 rfl ?_
                            refine zw_push zr_206_88 ?_
                            refine zw_39_5 zr_206_89 zr_206_90 ?_ ?_
                            · intro h112
                              refine zw_15 (c := 1) (L' := [(2, 69), (0, a0), (0, a1), (1, (0 + x31)), (9, 0), (1, (0 + x32)), (9, 0), (1, ((0 * x32) + (x102 * 1))), (9, 0), (1, (1 * x32)), (9, 0), (1, (0 + f101)), (9, 0), (0, ((((0 + 1) + 1) + 1) + 1)), (1, x110), (9, 0), (1, x111), (9, 0)]) zr_206_155 rfl (by decide) (by omega) rfl ?_
                              refine zw_42 zr_206_158 ?_
                              refine zw_4 zr_206_38 rfl ?_
                              refine zw_push zr_206_40 ?_
                              refine zw_41_3 zr_206_41 ?_ ?_
                              · intro h113
                                refine zw_6 zr_206_161 rfl ?_
                                refine zw_push zr_206_163 ?_
                                refine zw_39_4 zr_206_164 zr_206_165 ?_ ?_
                                · intro h114
                                  refine zw_3 zr_206_171 rfl ?_
                                  refine zw_40_4 zr_206_172 ?_ ?_
                                  · intro h115
                                    refine zw_7 zr_206_185 rfl ?_
                                    refine zw_6 zr_206_186 rfl ?_
                                    refine zw_6 zr_206_188 rfl ?_
                                    refine zw_6 zr_206_190 rfl ?_
                                    refine zw_29p (A := 99) (B := 9) zr_206_192 (by omega) (by omega) (by omega) (by omega) (by decide) ?_
                                    intro x116 hx116a hx116b
                                    refine zw_C zr_206_193 (Or.inl rfl) zm_173 rfl rfl ⟨Nat.le_of_ble_eq_true rfl, Nat.le_of_ble_eq_true rfl, Nat.le_of_ble_eq_true rfl, rfl, by decide⟩ (by omega) (th_173 (d := d - 1) (by omega) hI0 (a0 := ((0 * x32) + (x102 * 1))) (a1 := x116)      (by omega) (by omega) ) ?_
                                    rintro _ m117 ⟨rfl, hIm117, gm117⟩
                                    have hFm117 : zFr W_206 m0 m117 := hF0.trans gm117 rfl
                                    have km117_70_822 : m117 70 822 = g0 := (gm117 70 822 rfl).trans hg0
                                    have km117_70_819 : m117 70 819 = f101 := (gm117 70 819 rfl).trans ef101
                                    have fm117_70 : m117 70 = F70 := (funext fun k => gm117 70 k rfl).trans hG70
                                    show zW E (d) 206 196 [(2, 69), (0, a0), (0, a1), (1, (0 + x31)), (9, 0), (1, (0 + x32)), (9, 0), (1, ((0 * x32) + (x102 * 1))), (9, 0), (1, (1 * x32)), (9, 0), (1, (0 + f101)), (9, 0), (0, ((((0 + 1) + 1) + 1) + 1)), (1, x110), (9, 0), (1, x111), (9, 0)] [] m117 Q
                                    refine zw_push zr_206_196 ?_
                                    refine zw_R zr_206_197 (by decide) zm_206 (v := (0, 1)) rfl ?_
                                    rw [← hQ]; exact ⟨_, rfl, by omega, by omega, hIm117, hFm117, by omega⟩
                                  · intro h119
                                    refine zw_7 zr_206_175 rfl ?_
                                    refine zw_5 zr_206_176 rfl ?_
                                    refine zw_6 zr_206_177 rfl ?_
                                    refine zw_C zr_206_179 (Or.inl rfl) zm_173 rfl rfl ⟨Nat.le_of_ble_eq_true rfl, Nat.le_of_ble_eq_true rfl, Nat.le_of_ble_eq_true rfl, rfl, by decide⟩ (by omega) (th_173 (d := d - 1) (by omega) hI0 (a0 := (0 + x31)) (a1 := (0 + x32))      (by omega) (by omega) ) ?_
                                    rintro _ m120 ⟨rfl, hIm120, gm120⟩
                                    have hFm120 : zFr W_206 m0 m120 := hF0.trans gm120 rfl
                                    have km120_70_822 : m120 70 822 = g0 := (gm120 70 822 rfl).trans hg0
                                    have km120_70_819 : m120 70 819 = f101 := (gm120 70 819 rfl).trans ef101
                                    have fm120_70 : m120 70 = F70 := (funext fun k => gm120 70 k rfl).trans hG70
                                    show zW E (d) 206 182 [(2, 69), (0, a0), (0, a1), (1, (0 + x31)), (9, 0), (1, (0 + x32)), (9, 0), (1, ((0 * x32) + (x102 * 1))), (9, 0), (1, (1 * x32)), (9, 0), (1, (0 + f101)), (9, 0), (0, ((((0 + 1) + 1) + 1) + 1)), (1, x110), (9, 0), (1, x111), (9, 0)] [] m120 Q
                                    refine zw_42 zr_206_182 ?_
                                    refine zw_push zr_206_196 ?_
                                    refine zw_R zr_206_197 (by decide) zm_206 (v := (0, 1)) rfl ?_
                                    rw [← hQ]; exact ⟨_, rfl, by omega, by omega, hIm120, hFm120, by omega⟩
                                · intro h122; omega
                              · intro h123; omega
                            · intro h124
                              refine zw_5 zr_206_93 rfl ?_
                              refine zw_6 zr_206_94 rfl ?_
                              refine zw_27 zr_206_96 (by omega) ?_
                              refine zw_13 (L' := [(2, 69), (0, a0), (0, a1), (1, ((0 + x31) + x110)), (9, 0), (1, (0 + x32)), (9, 0), (1, ((0 * x32) + (x102 * 1))), (9, 0), (1, (1 * x32)), (9, 0), (1, (0 + f101)), (9, 0), (0, (((0 + 1) + 1) + 1)), (1, x110), (9, 0), (1, x111), (9, 0)]) zr_206_97 (Nat.le_of_ble_eq_true rfl) rfl ?_
                              refine zw_6 zr_206_98 rfl ?_
                              refine zw_6 zr_206_100 rfl ?_
                              refine zw_27 zr_206_102 (by omega) ?_
                              refine zw_14 (L' := [(2, 69), (0, a0), (0, a1), (1, ((0 + x31) + x110)), (9, 0), (1, ((0 + x32) + x111)), (9, 0), (1, ((0 * x32) + (x102 * 1))), (9, 0), (1, (1 * x32)), (9, 0), (1, (0 + f101)), (9, 0), (0, (((0 + 1) + 1) + 1)), (1, x110), (9, 0), (1, x111), (9, 0)]) zr_206_103 (Nat.le_of_ble_eq_true rfl) rfl ?_
                              refine zw_6 zr_206_105 rfl ?_
                              refine zw_6 zr_206_107 rfl ?_
                              refine zw_29h zr_206_109 ?_
                              intro x125 hx125a hx125b
                              refine zw_7 zr_206_110 rfl ?_
                              refine zw_46r (s := 70) zr_206_111 rfl rfl rfl rfl ?_
                              refine zw_push zr_206_114 ?_
                              refine zw_4 zr_206_117 rfl ?_
                              refine zw_16 zr_206_119 (by omega) ?_
                              obtain ⟨f126, ef126⟩ : ∃ v, m0 70 821 = v := ⟨_, rfl⟩
                              have bf126 : 1 ≤ m0 70 821 ∧ m0 70 821 ≤ 9 := ib_70_weight hI0 (by omega)
                              rw [ef126] at bf126
                              refine zw_48k (c := 70) (len := 826) zr_206_120 rfl rfl (by omega) (by omega) (show ((818 + (((0 + 1) + 1) + 1)) : Int).toNat = 821 by omega) ef126 ?_
                              refine zw_36 zr_206_121 ?_
                              refine zw_6 zr_206_122 rfl ?_
                              refine zw_29h zr_206_124 ?_
                              intro x127 hx127a hx127b
                              refine zw_6 zr_206_125 rfl ?_
                              refine zw_29h zr_206_127 ?_
                              intro x128 hx128a hx128b
                              refine zw_27h zr_206_128 ?_
                              intro x129 hx129a hx129b
                              refine zw_14 (L' := [(2, 69), (0, a0), (0, a1), (1, ((0 + x31) + x110)), (9, 0), (1, ((0 + x32) + x111)), (9, 0), (1, x129), (9, 0), (1, (1 * x32)), (9, 0), (1, (0 + f101)), (9, 0), (0, (((0 + 1) + 1) + 1)), (1, x110), (9, 0), (1, x111), (9, 0)]) zr_206_129 (Nat.le_of_ble_eq_true rfl) rfl ?_
                              refine zw_6 zr_206_131 rfl ?_
                              refine zw_6 zr_206_133 rfl ?_
                              refine zw_29p (A := 99) (B := 99) zr_206_135 (by omega) (by omega) (by omega) (by omega) (by decide) ?_
                              intro x130 hx130a hx130b
                              refine zw_14 (L' := [(2, 69), (0, a0), (0, a1), (1, ((0 + x31) + x110)), (9, 0), (1, ((0 + x32) + x111)), (9, 0), (1, x129), (9, 0), (1, x130), (9, 0), (1, (0 + f101)), (9, 0), (0, (((0 + 1) + 1) + 1)), (1, x110), (9, 0), (1, x111), (9, 0)]) zr_206_136 (Nat.le_of_ble_eq_true rfl) rfl ?_
                              refine zw_6 zr_206_138 rfl ?_
                              refine zw_7 zr_206_140 rfl ?_
                              refine zw_46r (s := 70) zr_206_141 rfl rfl rfl rfl ?_
                              refine zw_push zr_206_144 ?_
                              refine zw_4 zr_206_147 rfl ?_
                              refine zw_16 zr_206_149 (by omega) ?_
                              refine zw_48k (c := 70) (len := 826) zr_206_150 rfl rfl (by omega) (by omega) (show ((818 + (((0 + 1) + 1) + 1)) : Int).toNat = 821 by omega) ef126 ?_
                              refine zw_36 zr_206_151 ?_
                              refine zw_27 zr_206_152 (by omega) ?_
                              refine zw_14 (L' := [(2, 69), (0, a0), (0, a1), (1, ((0 + x31) + x110)), (9, 0), (1, ((0 + x32) + x111)), (9, 0), (1, x129), (9, 0), (1, x130), (9, 0), (1, ((0 + f101) + f126)), (9, 0), (0, (((0 + 1) + 1) + 1)), (1, x110), (9, 0), (1, x111), (9, 0)]) zr_206_153 (Nat.le_of_ble_eq_true rfl) rfl ?_
                              refine zw_15 (c := 1) (L' := [(2, 69), (0, a0), (0, a1), (1, ((0 + x31) + x110)), (9, 0), (1, ((0 + x32) + x111)), (9, 0), (1, x129), (9, 0), (1, x130), (9, 0), (1, ((0 + f101) + f126)), (9, 0), (0, ((((0 + 1) + 1) + 1) + 1)), (1, x110), (9, 0), (1, x111), (9, 0)]) zr_206_155 rfl (by decide) (by omega) rfl ?_
                              refine zw_42 zr_206_158 ?_
                              refine zw_4 zr_206_38 rfl ?_
                              refine zw_push zr_206_40 ?_
                              refine zw_41_3 zr_206_41 ?_ ?_
                              · intro h131
                                refine zw_6 zr_206_161 rfl ?_
                                refine zw_push zr_206_163 ?_
                                refine zw_39_4 zr_206_164 zr_206_165 ?_ ?_
                                · intro h132
                                  refine zw_3 zr_206_171 rfl ?_
                                  refine zw_40_4 zr_206_172 ?_ ?_
                                  · intro h133
                                    refine zw_7 zr_206_185 rfl ?_
                                    refine zw_6 zr_206_186 rfl ?_
                                    refine zw_6 zr_206_188 rfl ?_
                                    refine zw_6 zr_206_190 rfl ?_
                                    refine zw_29p (A := 9801) (B := 18) zr_206_192 (by omega) (by omega) (by omega) (by omega) (by decide) ?_
                                    intro x134 hx134a hx134b
                                    refine zw_C zr_206_193 (Or.inl rfl) zm_173 rfl rfl ⟨Nat.le_of_ble_eq_true rfl, Nat.le_of_ble_eq_true rfl, Nat.le_of_ble_eq_true rfl, rfl, by decide⟩ (by omega) (th_173 (d := d - 1) (by omega) hI0 (a0 := x129) (a1 := x134)      (by omega) (by omega) ) ?_
                                    rintro _ m135 ⟨rfl, hIm135, gm135⟩
                                    have hFm135 : zFr W_206 m0 m135 := hF0.trans gm135 rfl
                                    have km135_70_822 : m135 70 822 = g0 := (gm135 70 822 rfl).trans hg0
                                    have km135_70_819 : m135 70 819 = f101 := (gm135 70 819 rfl).trans ef101
                                    have km135_70_821 : m135 70 821 = f126 := (gm135 70 821 rfl).trans ef126
                                    have fm135_70 : m135 70 = F70 := (funext fun k => gm135 70 k rfl).trans hG70
                                    show zW E (d) 206 196 [(2, 69), (0, a0), (0, a1), (1, ((0 + x31) + x110)), (9, 0), (1, ((0 + x32) + x111)), (9, 0), (1, x129), (9, 0), (1, x130), (9, 0), (1, ((0 + f101) + f126)), (9, 0), (0, ((((0 + 1) + 1) + 1) + 1)), (1, x110), (9, 0), (1, x111), (9, 0)] [] m135 Q
                                    refine zw_push zr_206_196 ?_
                                    refine zw_R zr_206_197 (by decide) zm_206 (v := (0, 1)) rfl ?_
                                    rw [← hQ]; exact ⟨_, rfl, by omega, by omega, hIm135, hFm135, by omega⟩
                                  · intro h137
                                    refine zw_7 zr_206_175 rfl ?_
                                    refine zw_5 zr_206_176 rfl ?_
                                    refine zw_6 zr_206_177 rfl ?_
                                    refine zw_C zr_206_179 (Or.inl rfl) zm_173 rfl rfl ⟨Nat.le_of_ble_eq_true rfl, Nat.le_of_ble_eq_true rfl, Nat.le_of_ble_eq_true rfl, rfl, by decide⟩ (by omega) (th_173 (d := d - 1) (by omega) hI0 (a0 := ((0 + x31) + x110)) (a1 := ((0 + x32) + x111))      (by omega) (by omega) ) ?_
                                    rintro _ m138 ⟨rfl, hIm138, gm138⟩
                                    have hFm138 : zFr W_206 m0 m138 := hF0.trans gm138 rfl
                                    have km138_70_822 : m138 70 822 = g0 := (gm138 70 822 rfl).trans hg0
                                    have km138_70_819 : m138 70 819 = f101 := (gm138 70 819 rfl).trans ef101
                                    have km138_70_821 : m138 70 821 = f126 := (gm138 70 821 rfl).trans ef126
                                    have fm138_70 : m138 70 = F70 := (funext fun k => gm138 70 k rfl).trans hG70
                                    show zW E (d) 206 182 [(2, 69), (0, a0), (0, a1), (1, ((0 + x31) + x110)), (9, 0), (1, ((0 + x32) + x111)), (9, 0), (1, x129), (9, 0), (1, x130), (9, 0), (1, ((0 + f101) + f126)), (9, 0), (0, ((((0 + 1) + 1) + 1) + 1)), (1, x110), (9, 0), (1, x111), (9, 0)] [] m138 Q
                                    refine zw_42 zr_206_182 ?_
                                    refine zw_push zr_206_196 ?_
                                    refine zw_R zr_206_197 (by decide) zm_206 (v := (0, 1)) rfl ?_
                                    rw [← hQ]; exact ⟨_, rfl, by omega, by omega, hIm138, hFm138, by omega⟩
                                · intro h140; omega
                              · intro h141; omega
                        · intro h142
                          refine zw_5 zr_206_93 rfl ?_
                          refine zw_6 zr_206_94 rfl ?_
                          refine zw_27 zr_206_96 (by omega) ?_
                          refine zw_13 (L' := [(2, 69), (0, a0), (0, a1), (1, ((0 + x31) + x105)), (9, 0), (1, (0 + x32)), (9, 0), (1, ((0 * x32) + (x102 * 1))), (9, 0), (1, (1 * x32)), (9, 0), (1, (0 + f101)), (9, 0), (0, ((0 + 1) + 1)), (1, x105), (9, 0), (1, x106), (9, 0)]) zr_206_97 (Nat.le_of_ble_eq_true rfl) rfl ?_
                          refine zw_6 zr_206_98 rfl ?_
                          refine zw_6 zr_206_100 rfl ?_
                          refine zw_27 zr_206_102 (by omega) ?_
                          refine zw_14 (L' := [(2, 69), (0, a0), (0, a1), (1, ((0 + x31) + x105)), (9, 0), (1, ((0 + x32) + x106)), (9, 0), (1, ((0 * x32) + (x102 * 1))), (9, 0), (1, (1 * x32)), (9, 0), (1, (0 + f101)), (9, 0), (0, ((0 + 1) + 1)), (1, x105), (9, 0), (1, x106), (9, 0)]) zr_206_103 (Nat.le_of_ble_eq_true rfl) rfl ?_
                          refine zw_6 zr_206_105 rfl ?_
                          refine zw_6 zr_206_107 rfl ?_
                          refine zw_29h zr_206_109 ?_
                          intro x143 hx143a hx143b
                          refine zw_7 zr_206_110 rfl ?_
                          refine zw_46r (s := 70) zr_206_111 rfl rfl rfl rfl ?_
                          refine zw_push zr_206_114 ?_
                          refine zw_4 zr_206_117 rfl ?_
                          refine zw_16 zr_206_119 (by omega) ?_
                          obtain ⟨f144, ef144⟩ : ∃ v, m0 70 820 = v := ⟨_, rfl⟩
                          have bf144 : 1 ≤ m0 70 820 ∧ m0 70 820 ≤ 9 := ib_70_weight hI0 (by omega)
                          rw [ef144] at bf144
                          refine zw_48k (c := 70) (len := 826) zr_206_120 rfl rfl (by omega) (by omega) (show ((818 + ((0 + 1) + 1)) : Int).toNat = 820 by omega) ef144 ?_
                          refine zw_36 zr_206_121 ?_
                          refine zw_6 zr_206_122 rfl ?_
                          refine zw_29h zr_206_124 ?_
                          intro x145 hx145a hx145b
                          refine zw_6 zr_206_125 rfl ?_
                          refine zw_29h zr_206_127 ?_
                          intro x146 hx146a hx146b
                          refine zw_27h zr_206_128 ?_
                          intro x147 hx147a hx147b
                          refine zw_14 (L' := [(2, 69), (0, a0), (0, a1), (1, ((0 + x31) + x105)), (9, 0), (1, ((0 + x32) + x106)), (9, 0), (1, x147), (9, 0), (1, (1 * x32)), (9, 0), (1, (0 + f101)), (9, 0), (0, ((0 + 1) + 1)), (1, x105), (9, 0), (1, x106), (9, 0)]) zr_206_129 (Nat.le_of_ble_eq_true rfl) rfl ?_
                          refine zw_6 zr_206_131 rfl ?_
                          refine zw_6 zr_206_133 rfl ?_
                          refine zw_29p (A := 99) (B := 99) zr_206_135 (by omega) (by omega) (by omega) (by omega) (by decide) ?_
                          intro x148 hx148a hx148b
                          refine zw_14 (L' := [(2, 69), (0, a0), (0, a1), (1, ((0 + x31) + x105)), (9, 0), (1, ((0 + x32) + x106)), (9, 0), (1, x147), (9, 0), (1, x148), (9, 0), (1, (0 + f101)), (9, 0), (0, ((0 + 1) + 1)), (1, x105), (9, 0), (1, x106), (9, 0)]) zr_206_136 (Nat.le_of_ble_eq_true rfl) rfl ?_
                          refine zw_6 zr_206_138 rfl ?_
                          refine zw_7 zr_206_140 rfl ?_
                          refine zw_46r (s := 70) zr_206_141 rfl rfl rfl rfl ?_
                          refine zw_push zr_206_144 ?_
                          refine zw_4 zr_206_147 rfl ?_
                          refine zw_16 zr_206_149 (by omega) ?_
                          refine zw_48k (c := 70) (len := 826) zr_206_150 rfl rfl (by omega) (by omega) (show ((818 + ((0 + 1) + 1)) : Int).toNat = 820 by omega) ef144 ?_
                          refine zw_36 zr_206_151 ?_
                          refine zw_27 zr_206_152 (by omega) ?_
                          refine zw_14 (L' := [(2, 69), (0, a0), (0, a1), (1, ((0 + x31) + x105)), (9, 0), (1, ((0 + x32) + x106)), (9, 0), (1, x147), (9, 0), (1, x148), (9, 0), (1, ((0 + f101) + f144)), (9, 0), (0, ((0 + 1) + 1)), (1, x105), (9, 0), (1, x106), (9, 0)]) zr_206_153 (Nat.le_of_ble_eq_true rfl) rfl ?_
                          refine zw_15 (c := 1) (L' := [(2, 69), (0, a0), (0, a1), (1, ((0 + x31) + x105)), (9, 0), (1, ((0 + x32) + x106)), (9, 0), (1, x147), (9, 0), (1, x148), (9, 0), (1, ((0 + f101) + f144)), (9, 0), (0, (((0 + 1) + 1) + 1)), (1, x105), (9, 0), (1, x106), (9, 0)]) zr_206_155 rfl (by decide) (by omega) rfl ?_
                          refine zw_42 zr_206_158 ?_
                          refine zw_4 zr_206_38 rfl ?_
                          refine zw_push zr_206_40 ?_
                          refine zw_41_3 zr_206_41 ?_ ?_
                          · intro h149; omega
                          · intro h150
                            refine zw_7 zr_206_44 rfl ?_
                            refine zw_46r (s := 70) zr_206_45 rfl rfl rfl rfl ?_
                            refine zw_push zr_206_48 ?_
                            refine zw_push zr_206_50 ?_
                            refine zw_3 zr_206_52 rfl ?_
                            refine zw_18 zr_206_53 (by omega) ?_
                            refine zw_16 zr_206_54 (by omega) ?_
                            refine zw_push zr_206_55 ?_
                            refine zw_4 zr_206_56 rfl ?_
                            refine zw_18 zr_206_58 (by omega) ?_
                            refine zw_16 zr_206_59 (by omega) ?_
                            refine zw_48 (c := 70) (len := 826) zr_206_60 rfl rfl (by omega) (by omega) ?_
                            intro x151 ex151
                            have bx151 := ib_70_moves hI0 (k := (((10 + (8 * a0)) + (2 * (((0 + 1) + 1) + 1)))).toNat) (by omega)
                            rw [← ex151] at bx151
                            have qx151 : x151 = F70 (((10 + (8 * a0)) + (2 * (((0 + 1) + 1) + 1)))).toNat := by rw [← hG70]; exact ex151
                            clear ex151
                            refine zw_36 zr_206_61 ?_
                            refine zw_14 (L' := [(2, 69), (0, a0), (0, a1), (1, ((0 + x31) + x105)), (9, 0), (1, ((0 + x32) + x106)), (9, 0), (1, x147), (9, 0), (1, x148), (9, 0), (1, ((0 + f101) + f144)), (9, 0), (0, (((0 + 1) + 1) + 1)), (1, x151), (9, 0), (1, x106), (9, 0)]) zr_206_62 (Nat.le_of_ble_eq_true rfl) rfl ?_
                            refine zw_7 zr_206_64 rfl ?_
                            refine zw_46r (s := 70) zr_206_65 rfl rfl rfl rfl ?_
                            refine zw_push zr_206_68 ?_
                            refine zw_push zr_206_70 ?_
                            refine zw_3 zr_206_72 rfl ?_
                            refine zw_18 zr_206_73 (by omega) ?_
                            refine zw_16 zr_206_74 (by omega) ?_
                            refine zw_push zr_206_75 ?_
                            refine zw_4 zr_206_76 rfl ?_
                            refine zw_18 zr_206_78 (by omega) ?_
                            refine zw_16 zr_206_79 (by omega) ?_
                            refine zw_push zr_206_80 ?_
                            refine zw_16 zr_206_81 (by omega) ?_
                            refine zw_48 (c := 70) (len := 826) zr_206_82 rfl rfl (by omega) (by omega) ?_
                            intro x152 ex152
                            have bx152 := ib_70_moves hI0 (k := ((((10 + (8 * a0)) + (2 * (((0 + 1) + 1) + 1))) + 1)).toNat) (by omega)
                            rw [← ex152] at bx152
                            have qx152 : x152 = F70 ((((10 + (8 * a0)) + (2 * (((0 + 1) + 1) + 1))) + 1)).toNat := by rw [← hG70]; exact ex152
                            clear ex152
                            refine zw_36 zr_206_83 ?_
                            refine zw_14 (L' := [(2, 69), (0, a0), (0, a1), (1, ((0 + x31) + x105)), (9, 0), (1, ((0 + x32) + x106)), (9, 0), (1, x147), (9, 0), (1, x148), (9, 0), (1, ((0 + f101) + f144)), (9, 0), (0, (((0 + 1) + 1) + 1)), (1, x151), (9, 0), (1, x152), (9, 0)]) zr_206_84 (Nat.le_of_ble_eq_true rfl) rfl ?_
                            refine zw_6 zr_206_86 rfl ?_
                            refine zw_push zr_206_88 ?_
                            refine zw_39_5 zr_206_89 zr_206_90 ?_ ?_
                            · intro h153
                              refine zw_15 (c := 1) (L' := [(2, 69), (0, a0), (0, a1), (1, ((0 + x31) + x105)), (9, 0), (1, ((0 + x32) + x106)), (9, 0), (1, x147), (9, 0), (1, x148), (9, 0), (1, ((0 + f101) + f144)), (9, 0), (0, ((((0 + 1) + 1) + 1) + 1)), (1, x151), (9, 0), (1, x152), (9, 0)]) zr_206_155 rfl (by decide) (by omega) rfl ?_
                              refine zw_42 zr_206_158 ?_
                              refine zw_4 zr_206_38 rfl ?_
                              refine zw_push zr_206_40 ?_
                              refine zw_41_3 zr_206_41 ?_ ?_
                              · intro h154
                                refine zw_6 zr_206_161 rfl ?_
                                refine zw_push zr_206_163 ?_
                                refine zw_39_4 zr_206_164 zr_206_165 ?_ ?_
                                · intro h155
                                  refine zw_3 zr_206_171 rfl ?_
                                  refine zw_40_4 zr_206_172 ?_ ?_
                                  · intro h156
                                    refine zw_7 zr_206_185 rfl ?_
                                    refine zw_6 zr_206_186 rfl ?_
                                    refine zw_6 zr_206_188 rfl ?_
                                    refine zw_6 zr_206_190 rfl ?_
                                    refine zw_29p (A := 9801) (B := 18) zr_206_192 (by omega) (by omega) (by omega) (by omega) (by decide) ?_
                                    intro x157 hx157a hx157b
                                    refine zw_C zr_206_193 (Or.inl rfl) zm_173 rfl rfl ⟨Nat.le_of_ble_eq_true rfl, Nat.le_of_ble_eq_true rfl, Nat.le_of_ble_eq_true rfl, rfl, by decide⟩ (by omega) (th_173 (d := d - 1) (by omega) hI0 (a0 := x147) (a1 := x157)      (by omega) (by omega) ) ?_
                                    rintro _ m158 ⟨rfl, hIm158, gm158⟩
                                    have hFm158 : zFr W_206 m0 m158 := hF0.trans gm158 rfl
                                    have km158_70_822 : m158 70 822 = g0 := (gm158 70 822 rfl).trans hg0
                                    have km158_70_819 : m158 70 819 = f101 := (gm158 70 819 rfl).trans ef101
                                    have km158_70_820 : m158 70 820 = f144 := (gm158 70 820 rfl).trans ef144
                                    have fm158_70 : m158 70 = F70 := (funext fun k => gm158 70 k rfl).trans hG70
                                    show zW E (d) 206 196 [(2, 69), (0, a0), (0, a1), (1, ((0 + x31) + x105)), (9, 0), (1, ((0 + x32) + x106)), (9, 0), (1, x147), (9, 0), (1, x148), (9, 0), (1, ((0 + f101) + f144)), (9, 0), (0, ((((0 + 1) + 1) + 1) + 1)), (1, x151), (9, 0), (1, x152), (9, 0)] [] m158 Q
                                    refine zw_push zr_206_196 ?_
                                    refine zw_R zr_206_197 (by decide) zm_206 (v := (0, 1)) rfl ?_
                                    rw [← hQ]; exact ⟨_, rfl, by omega, by omega, hIm158, hFm158, by omega⟩
                                  · intro h160
                                    refine zw_7 zr_206_175 rfl ?_
                                    refine zw_5 zr_206_176 rfl ?_
                                    refine zw_6 zr_206_177 rfl ?_
                                    refine zw_C zr_206_179 (Or.inl rfl) zm_173 rfl rfl ⟨Nat.le_of_ble_eq_true rfl, Nat.le_of_ble_eq_true rfl, Nat.le_of_ble_eq_true rfl, rfl, by decide⟩ (by omega) (th_173 (d := d - 1) (by omega) hI0 (a0 := ((0 + x31) + x105)) (a1 := ((0 + x32) + x106))      (by omega) (by omega) ) ?_
                                    rintro _ m161 ⟨rfl, hIm161, gm161⟩
                                    have hFm161 : zFr W_206 m0 m161 := hF0.trans gm161 rfl
                                    have km161_70_822 : m161 70 822 = g0 := (gm161 70 822 rfl).trans hg0
                                    have km161_70_819 : m161 70 819 = f101 := (gm161 70 819 rfl).trans ef101
                                    have km161_70_820 : m161 70 820 = f144 := (gm161 70 820 rfl).trans ef144
                                    have fm161_70 : m161 70 = F70 := (funext fun k => gm161 70 k rfl).trans hG70
                                    show zW E (d) 206 182 [(2, 69), (0, a0), (0, a1), (1, ((0 + x31) + x105)), (9, 0), (1, ((0 + x32) + x106)), (9, 0), (1, x147), (9, 0), (1, x148), (9, 0), (1, ((0 + f101) + f144)), (9, 0), (0, ((((0 + 1) + 1) + 1) + 1)), (1, x151), (9, 0), (1, x152), (9, 0)] [] m161 Q
                                    refine zw_42 zr_206_182 ?_
                                    refine zw_push zr_206_196 ?_
                                    refine zw_R zr_206_197 (by decide) zm_206 (v := (0, 1)) rfl ?_
                                    rw [← hQ]; exact ⟨_, rfl, by omega, by omega, hIm161, hFm161, by omega⟩
                                · intro h163; omega
                              · intro h164; omega
                            · intro h165
                              refine zw_5 zr_206_93 rfl ?_
                              refine zw_6 zr_206_94 rfl ?_
                              refine zw_27 zr_206_96 (by omega) ?_
                              refine zw_13 (L' := [(2, 69), (0, a0), (0, a1), (1, (((0 + x31) + x105) + x151)), (9, 0), (1, ((0 + x32) + x106)), (9, 0), (1, x147), (9, 0), (1, x148), (9, 0), (1, ((0 + f101) + f144)), (9, 0), (0, (((0 + 1) + 1) + 1)), (1, x151), (9, 0), (1, x152), (9, 0)]) zr_206_97 (Nat.le_of_ble_eq_true rfl) rfl ?_
                              refine zw_6 zr_206_98 rfl ?_
                              refine zw_6 zr_206_100 rfl ?_
                              refine zw_27 zr_206_102 (by omega) ?_
                              refine zw_14 (L' := [(2, 69), (0, a0), (0, a1), (1, (((0 + x31) + x105) + x151)), (9, 0), (1, (((0 + x32) + x106) + x152)), (9, 0), (1, x147), (9, 0), (1, x148), (9, 0), (1, ((0 + f101) + f144)), (9, 0), (0, (((0 + 1) + 1) + 1)), (1, x151), (9, 0), (1, x152), (9, 0)]) zr_206_103 (Nat.le_of_ble_eq_true rfl) rfl ?_
                              refine zw_6 zr_206_105 rfl ?_
                              refine zw_6 zr_206_107 rfl ?_
                              refine zw_29h zr_206_109 ?_
                              intro x166 hx166a hx166b
                              refine zw_7 zr_206_110 rfl ?_
                              refine zw_46r (s := 70) zr_206_111 rfl rfl rfl rfl ?_
                              refine zw_push zr_206_114 ?_
                              refine zw_4 zr_206_117 rfl ?_
                              refine zw_16 zr_206_119 (by omega) ?_
                              obtain ⟨f167, ef167⟩ : ∃ v, m0 70 821 = v := ⟨_, rfl⟩
                              have bf167 : 1 ≤ m0 70 821 ∧ m0 70 821 ≤ 9 := ib_70_weight hI0 (by omega)
                              rw [ef167] at bf167
                              refine zw_48k (c := 70) (len := 826) zr_206_120 rfl rfl (by omega) (by omega) (show ((818 + (((0 + 1) + 1) + 1)) : Int).toNat = 821 by omega) ef167 ?_
                              refine zw_36 zr_206_121 ?_
                              refine zw_6 zr_206_122 rfl ?_
                              refine zw_29h zr_206_124 ?_
                              intro x168 hx168a hx168b
                              refine zw_6 zr_206_125 rfl ?_
                              refine zw_29h zr_206_127 ?_
                              intro x169 hx169a hx169b
                              refine zw_27h zr_206_128 ?_
                              intro x170 hx170a hx170b
                              refine zw_14 (L' := [(2, 69), (0, a0), (0, a1), (1, (((0 + x31) + x105) + x151)), (9, 0), (1, (((0 + x32) + x106) + x152)), (9, 0), (1, x170), (9, 0), (1, x148), (9, 0), (1, ((0 + f101) + f144)), (9, 0), (0, (((0 + 1) + 1) + 1)), (1, x151), (9, 0), (1, x152), (9, 0)]) zr_206_129 (Nat.le_of_ble_eq_true rfl) rfl ?_
                              refine zw_6 zr_206_131 rfl ?_
                              refine zw_6 zr_206_133 rfl ?_
                              refine zw_29p (A := 9801) (B := 99) zr_206_135 (by omega) (by omega) (by omega) (by omega) (by decide) ?_
                              intro x171 hx171a hx171b
                              refine zw_14 (L' := [(2, 69), (0, a0), (0, a1), (1, (((0 + x31) + x105) + x151)), (9, 0), (1, (((0 + x32) + x106) + x152)), (9, 0), (1, x170), (9, 0), (1, x171), (9, 0), (1, ((0 + f101) + f144)), (9, 0), (0, (((0 + 1) + 1) + 1)), (1, x151), (9, 0), (1, x152), (9, 0)]) zr_206_136 (Nat.le_of_ble_eq_true rfl) rfl ?_
                              refine zw_6 zr_206_138 rfl ?_
                              refine zw_7 zr_206_140 rfl ?_
                              refine zw_46r (s := 70) zr_206_141 rfl rfl rfl rfl ?_
                              refine zw_push zr_206_144 ?_
                              refine zw_4 zr_206_147 rfl ?_
                              refine zw_16 zr_206_149 (by omega) ?_
                              refine zw_48k (c := 70) (len := 826) zr_206_150 rfl rfl (by omega) (by omega) (show ((818 + (((0 + 1) + 1) + 1)) : Int).toNat = 821 by omega) ef167 ?_
                              refine zw_36 zr_206_151 ?_
                              refine zw_27 zr_206_152 (by omega) ?_
                              refine zw_14 (L' := [(2, 69), (0, a0), (0, a1), (1, (((0 + x31) + x105) + x151)), (9, 0), (1, (((0 + x32) + x106) + x152)), (9, 0), (1, x170), (9, 0), (1, x171), (9, 0), (1, (((0 + f101) + f144) + f167)), (9, 0), (0, (((0 + 1) + 1) + 1)), (1, x151), (9, 0), (1, x152), (9, 0)]) zr_206_153 (Nat.le_of_ble_eq_true rfl) rfl ?_
                              refine zw_15 (c := 1) (L' := [(2, 69), (0, a0), (0, a1), (1, (((0 + x31) + x105) + x151)), (9, 0), (1, (((0 + x32) + x106) + x152)), (9, 0), (1, x170), (9, 0), (1, x171), (9, 0), (1, (((0 + f101) + f144) + f167)), (9, 0), (0, ((((0 + 1) + 1) + 1) + 1)), (1, x151), (9, 0), (1, x152), (9, 0)]) zr_206_155 rfl (by decide) (by omega) rfl ?_
                              refine zw_42 zr_206_158 ?_
                              refine zw_4 zr_206_38 rfl ?_
                              refine zw_push zr_206_40 ?_
                              refine zw_41_3 zr_206_41 ?_ ?_
                              · intro h172
                                refine zw_6 zr_206_161 rfl ?_
                                refine zw_push zr_206_163 ?_
                                refine zw_39_4 zr_206_164 zr_206_165 ?_ ?_
                                · intro h173
                                  refine zw_3 zr_206_171 rfl ?_
                                  refine zw_40_4 zr_206_172 ?_ ?_
                                  · intro h174
                                    refine zw_7 zr_206_185 rfl ?_
                                    refine zw_6 zr_206_186 rfl ?_
                                    refine zw_6 zr_206_188 rfl ?_
                                    refine zw_6 zr_206_190 rfl ?_
                                    refine zw_29p (A := 970299) (B := 27) zr_206_192 (by omega) (by omega) (by omega) (by omega) (by decide) ?_
                                    intro x175 hx175a hx175b
                                    refine zw_C zr_206_193 (Or.inl rfl) zm_173 rfl rfl ⟨Nat.le_of_ble_eq_true rfl, Nat.le_of_ble_eq_true rfl, Nat.le_of_ble_eq_true rfl, rfl, by decide⟩ (by omega) (th_173 (d := d - 1) (by omega) hI0 (a0 := x170) (a1 := x175)      (by omega) (by omega) ) ?_
                                    rintro _ m176 ⟨rfl, hIm176, gm176⟩
                                    have hFm176 : zFr W_206 m0 m176 := hF0.trans gm176 rfl
                                    have km176_70_822 : m176 70 822 = g0 := (gm176 70 822 rfl).trans hg0
                                    have km176_70_819 : m176 70 819 = f101 := (gm176 70 819 rfl).trans ef101
                                    have km176_70_820 : m176 70 820 = f144 := (gm176 70 820 rfl).trans ef144
                                    have km176_70_821 : m176 70 821 = f167 := (gm176 70 821 rfl).trans ef167
                                    have fm176_70 : m176 70 = F70 := (funext fun k => gm176 70 k rfl).trans hG70
                                    show zW E (d) 206 196 [(2, 69), (0, a0), (0, a1), (1, (((0 + x31) + x105) + x151)), (9, 0), (1, (((0 + x32) + x106) + x152)), (9, 0), (1, x170), (9, 0), (1, x171), (9, 0), (1, (((0 + f101) + f144) + f167)), (9, 0), (0, ((((0 + 1) + 1) + 1) + 1)), (1, x151), (9, 0), (1, x152), (9, 0)] [] m176 Q
                                    refine zw_push zr_206_196 ?_
                                    refine zw_R zr_206_197 (by decide) zm_206 (v := (0, 1)) rfl ?_
                                    rw [← hQ]; exact ⟨_, rfl, by omega, by omega, hIm176, hFm176, by omega⟩
                                  · intro h178
                                    refine zw_7 zr_206_175 rfl ?_
                                    refine zw_5 zr_206_176 rfl ?_
                                    refine zw_6 zr_206_177 rfl ?_
                                    refine zw_C zr_206_179 (Or.inl rfl) zm_173 rfl rfl ⟨Nat.le_of_ble_eq_true rfl, Nat.le_of_ble_eq_true rfl, Nat.le_of_ble_eq_true rfl, rfl, by decide⟩ (by omega) (th_173 (d := d - 1) (by omega) hI0 (a0 := (((0 + x31) + x105) + x151)) (a1 := (((0 + x32) + x106) + x152))      (by omega) (by omega) ) ?_
                                    rintro _ m179 ⟨rfl, hIm179, gm179⟩
                                    have hFm179 : zFr W_206 m0 m179 := hF0.trans gm179 rfl
                                    have km179_70_822 : m179 70 822 = g0 := (gm179 70 822 rfl).trans hg0
                                    have km179_70_819 : m179 70 819 = f101 := (gm179 70 819 rfl).trans ef101
                                    have km179_70_820 : m179 70 820 = f144 := (gm179 70 820 rfl).trans ef144
                                    have km179_70_821 : m179 70 821 = f167 := (gm179 70 821 rfl).trans ef167
                                    have fm179_70 : m179 70 = F70 := (funext fun k => gm179 70 k rfl).trans hG70
                                    show zW E (d) 206 182 [(2, 69), (0, a0), (0, a1), (1, (((0 + x31) + x105) + x151)), (9, 0), (1, (((0 + x32) + x106) + x152)), (9, 0), (1, x170), (9, 0), (1, x171), (9, 0), (1, (((0 + f101) + f144) + f167)), (9, 0), (0, ((((0 + 1) + 1) + 1) + 1)), (1, x151), (9, 0), (1, x152), (9, 0)] [] m179 Q
                                    refine zw_42 zr_206_182 ?_
                                    refine zw_push zr_206_196 ?_
                                    refine zw_R zr_206_197 (by decide) zm_206 (v := (0, 1)) rfl ?_
                                    rw [← hQ]; exact ⟨_, rfl, by omega, by omega, hIm179, hFm179, by omega⟩
                                · intro h181; omega
                              · intro h182; omega
                · intro h183
                  refine zw_5 zr_206_93 rfl ?_
                  refine zw_6 zr_206_94 rfl ?_
                  refine zw_27 zr_206_96 (by omega) ?_
                  refine zw_13 (L' := [(2, 69), (0, a0), (0, a1), (1, (0 + x26)), (9, 0), (1, 0), (9, 0), (1, 0), (9, 0), (1, 1), (9, 0), (1, 0), (9, 0), (0, 0), (1, x26), (9, 0), (1, x27), (9, 0)]) zr_206_97 (Nat.le_of_ble_eq_true rfl) rfl ?_
                  refine zw_6 zr_206_98 rfl ?_
                  refine zw_6 zr_206_100 rfl ?_
                  refine zw_27 zr_206_102 (by omega) ?_
                  refine zw_14 (L' := [(2, 69), (0, a0), (0, a1), (1, (0 + x26)), (9, 0), (1, (0 + x27)), (9, 0), (1, 0), (9, 0), (1, 1), (9, 0), (1, 0), (9, 0), (0, 0), (1, x26), (9, 0), (1, x27), (9, 0)]) zr_206_103 (Nat.le_of_ble_eq_true rfl) rfl ?_
                  refine zw_6 zr_206_105 rfl ?_
                  refine zw_6 zr_206_107 rfl ?_
                  refine zw_29 zr_206_109 (by omega) ?_
                  refine zw_7 zr_206_110 rfl ?_
                  refine zw_46r (s := 70) zr_206_111 rfl rfl rfl rfl ?_
                  refine zw_push zr_206_114 ?_
                  refine zw_4 zr_206_117 rfl ?_
                  refine zw_16 zr_206_119 (by omega) ?_
                  obtain ⟨f184, ef184⟩ : ∃ v, m0 70 818 = v := ⟨_, rfl⟩
                  have bf184 : 1 ≤ m0 70 818 ∧ m0 70 818 ≤ 9 := ib_70_weight hI0 (by omega)
                  rw [ef184] at bf184
                  refine zw_48k (c := 70) (len := 826) zr_206_120 rfl rfl (by omega) (by omega) (show ((818 + 0) : Int).toNat = 818 by omega) ef184 ?_
                  refine zw_36 zr_206_121 ?_
                  refine zw_6 zr_206_122 rfl ?_
                  refine zw_29h zr_206_124 ?_
                  intro x185 hx185a hx185b
                  refine zw_6 zr_206_125 rfl ?_
                  refine zw_29 zr_206_127 (by omega) ?_
                  refine zw_27 zr_206_128 (by omega) ?_
                  refine zw_14 (L' := [(2, 69), (0, a0), (0, a1), (1, (0 + x26)), (9, 0), (1, (0 + x27)), (9, 0), (1, ((0 * x27) + (x185 * 1))), (9, 0), (1, 1), (9, 0), (1, 0), (9, 0), (0, 0), (1, x26), (9, 0), (1, x27), (9, 0)]) zr_206_129 (Nat.le_of_ble_eq_true rfl) rfl ?_
                  refine zw_6 zr_206_131 rfl ?_
                  refine zw_6 zr_206_133 rfl ?_
                  refine zw_29 zr_206_135 (by omega) ?_
                  refine zw_14 (L' := [(2, 69), (0, a0), (0, a1), (1, (0 + x26)), (9, 0), (1, (0 + x27)), (9, 0), (1, ((0 * x27) + (x185 * 1))), (9, 0), (1, (1 * x27)), (9, 0), (1, 0), (9, 0), (0, 0), (1, x26), (9, 0), (1, x27), (9, 0)]) zr_206_136 (Nat.le_of_ble_eq_true rfl) rfl ?_
                  refine zw_6 zr_206_138 rfl ?_
                  refine zw_7 zr_206_140 rfl ?_
                  refine zw_46r (s := 70) zr_206_141 rfl rfl rfl rfl ?_
                  refine zw_push zr_206_144 ?_
                  refine zw_4 zr_206_147 rfl ?_
                  refine zw_16 zr_206_149 (by omega) ?_
                  refine zw_48k (c := 70) (len := 826) zr_206_150 rfl rfl (by omega) (by omega) (show ((818 + 0) : Int).toNat = 818 by omega) ef184 ?_
                  refine zw_36 zr_206_151 ?_
                  refine zw_27 zr_206_152 (by omega) ?_
                  refine zw_14 (L' := [(2, 69), (0, a0), (0, a1), (1, (0 + x26)), (9, 0), (1, (0 + x27)), (9, 0), (1, ((0 * x27) + (x185 * 1))), (9, 0), (1, (1 * x27)), (9, 0), (1, (0 + f184)), (9, 0), (0, 0), (1, x26), (9, 0), (1, x27), (9, 0)]) zr_206_153 (Nat.le_of_ble_eq_true rfl) rfl ?_
                  refine zw_15 (c := 1) (L' := [(2, 69), (0, a0), (0, a1), (1, (0 + x26)), (9, 0), (1, (0 + x27)), (9, 0), (1, ((0 * x27) + (x185 * 1))), (9, 0), (1, (1 * x27)), (9, 0), (1, (0 + f184)), (9, 0), (0, (0 + 1)), (1, x26), (9, 0), (1, x27), (9, 0)]) zr_206_155 rfl (by decide) (by omega) rfl ?_
                  refine zw_42 zr_206_158 ?_
                  refine zw_4 zr_206_38 rfl ?_
                  refine zw_push zr_206_40 ?_
                  refine zw_41_3 zr_206_41 ?_ ?_
                  · intro h186; omega
                  · intro h187
                    refine zw_7 zr_206_44 rfl ?_
                    refine zw_46r (s := 70) zr_206_45 rfl rfl rfl rfl ?_
                    refine zw_push zr_206_48 ?_
                    refine zw_push zr_206_50 ?_
                    refine zw_3 zr_206_52 rfl ?_
                    refine zw_18 zr_206_53 (by omega) ?_
                    refine zw_16 zr_206_54 (by omega) ?_
                    refine zw_push zr_206_55 ?_
                    refine zw_4 zr_206_56 rfl ?_
                    refine zw_18 zr_206_58 (by omega) ?_
                    refine zw_16 zr_206_59 (by omega) ?_
                    refine zw_48 (c := 70) (len := 826) zr_206_60 rfl rfl (by omega) (by omega) ?_
                    intro x188 ex188
                    have bx188 := ib_70_moves hI0 (k := (((10 + (8 * a0)) + (2 * (0 + 1)))).toNat) (by omega)
                    rw [← ex188] at bx188
                    have qx188 : x188 = F70 (((10 + (8 * a0)) + (2 * (0 + 1)))).toNat := by rw [← hG70]; exact ex188
                    clear ex188
                    refine zw_36 zr_206_61 ?_
                    refine zw_14 (L' := [(2, 69), (0, a0), (0, a1), (1, (0 + x26)), (9, 0), (1, (0 + x27)), (9, 0), (1, ((0 * x27) + (x185 * 1))), (9, 0), (1, (1 * x27)), (9, 0), (1, (0 + f184)), (9, 0), (0, (0 + 1)), (1, x188), (9, 0), (1, x27), (9, 0)]) zr_206_62 (Nat.le_of_ble_eq_true rfl) rfl ?_
                    refine zw_7 zr_206_64 rfl ?_
                    refine zw_46r (s := 70) zr_206_65 rfl rfl rfl rfl ?_
                    refine zw_push zr_206_68 ?_
                    refine zw_push zr_206_70 ?_
                    refine zw_3 zr_206_72 rfl ?_
                    refine zw_18 zr_206_73 (by omega) ?_
                    refine zw_16 zr_206_74 (by omega) ?_
                    refine zw_push zr_206_75 ?_
                    refine zw_4 zr_206_76 rfl ?_
                    refine zw_18 zr_206_78 (by omega) ?_
                    refine zw_16 zr_206_79 (by omega) ?_
                    refine zw_push zr_206_80 ?_
                    refine zw_16 zr_206_81 (by omega) ?_
                    refine zw_48 (c := 70) (len := 826) zr_206_82 rfl rfl (by omega) (by omega) ?_
                    intro x189 ex189
                    have bx189 := ib_70_moves hI0 (k := ((((10 + (8 * a0)) + (2 * (0 + 1))) + 1)).toNat) (by omega)
                    rw [← ex189] at bx189
                    have qx189 : x189 = F70 ((((10 + (8 * a0)) + (2 * (0 + 1))) + 1)).toNat := by rw [← hG70]; exact ex189
                    clear ex189
                    refine zw_36 zr_206_83 ?_
                    refine zw_14 (L' := [(2, 69), (0, a0), (0, a1), (1, (0 + x26)), (9, 0), (1, (0 + x27)), (9, 0), (1, ((0 * x27) + (x185 * 1))), (9, 0), (1, (1 * x27)), (9, 0), (1, (0 + f184)), (9, 0), (0, (0 + 1)), (1, x188), (9, 0), (1, x189), (9, 0)]) zr_206_84 (Nat.le_of_ble_eq_true rfl) rfl ?_
                    refine zw_6 zr_206_86 rfl ?_
                    refine zw_push zr_206_88 ?_
                    refine zw_39_5 zr_206_89 zr_206_90 ?_ ?_
                    · intro h190
                      refine zw_15 (c := 1) (L' := [(2, 69), (0, a0), (0, a1), (1, (0 + x26)), (9, 0), (1, (0 + x27)), (9, 0), (1, ((0 * x27) + (x185 * 1))), (9, 0), (1, (1 * x27)), (9, 0), (1, (0 + f184)), (9, 0), (0, ((0 + 1) + 1)), (1, x188), (9, 0), (1, x189), (9, 0)]) zr_206_155 rfl (by decide) (by omega) rfl ?_
                      refine zw_42 zr_206_158 ?_
                      refine zw_4 zr_206_38 rfl ?_
                      refine zw_push zr_206_40 ?_
                      refine zw_41_3 zr_206_41 ?_ ?_
                      · intro h191; omega
                      · intro h192
                        refine zw_7 zr_206_44 rfl ?_
                        refine zw_46r (s := 70) zr_206_45 rfl rfl rfl rfl ?_
                        refine zw_push zr_206_48 ?_
                        refine zw_push zr_206_50 ?_
                        refine zw_3 zr_206_52 rfl ?_
                        refine zw_18 zr_206_53 (by omega) ?_
                        refine zw_16 zr_206_54 (by omega) ?_
                        refine zw_push zr_206_55 ?_
                        refine zw_4 zr_206_56 rfl ?_
                        refine zw_18 zr_206_58 (by omega) ?_
                        refine zw_16 zr_206_59 (by omega) ?_
                        refine zw_48 (c := 70) (len := 826) zr_206_60 rfl rfl (by omega) (by omega) ?_
                        intro x193 ex193
                        have bx193 := ib_70_moves hI0 (k := (((10 + (8 * a0)) + (2 * ((0 + 1) + 1)))).toNat) (by omega)
                        rw [← ex193] at bx193
                        have qx193 : x193 = F70 (((10 + (8 * a0)) + (2 * ((0 + 1) + 1)))).toNat := by rw [← hG70]; exact ex193
                        clear ex193
                        refine zw_36 zr_206_61 ?_
                        refine zw_14 (L' := [(2, 69), (0, a0), (0, a1), (1, (0 + x26)), (9, 0), (1, (0 + x27)), (9, 0), (1, ((0 * x27) + (x185 * 1))), (9, 0), (1, (1 * x27)), (9, 0), (1, (0 + f184)), (9, 0), (0, ((0 + 1) + 1)), (1, x193), (9, 0), (1, x189), (9, 0)]) zr_206_62 (Nat.le_of_ble_eq_true rfl) rfl ?_
                        refine zw_7 zr_206_64 rfl ?_
                        refine zw_46r (s := 70) zr_206_65 rfl rfl rfl rfl ?_
                        refine zw_push zr_206_68 ?_
                        refine zw_push zr_206_70 ?_
                        refine zw_3 zr_206_72 rfl ?_
                        refine zw_18 zr_206_73 (by omega) ?_
                        refine zw_16 zr_206_74 (by omega) ?_
                        refine zw_push zr_206_75 ?_
                        refine zw_4 zr_206_76 rfl ?_
                        refine zw_18 zr_206_78 (by omega) ?_
                        refine zw_16 zr_206_79 (by omega) ?_
                        refine zw_push zr_206_80 ?_
                        refine zw_16 zr_206_81 (by omega) ?_
                        refine zw_48 (c := 70) (len := 826) zr_206_82 rfl rfl (by omega) (by omega) ?_
                        intro x194 ex194
                        have bx194 := ib_70_moves hI0 (k := ((((10 + (8 * a0)) + (2 * ((0 + 1) + 1))) + 1)).toNat) (by omega)
                        rw [← ex194] at bx194
                        have qx194 : x194 = F70 ((((10 + (8 * a0)) + (2 * ((0 + 1) + 1))) + 1)).toNat := by rw [← hG70]; exact ex194
                        clear ex194
                        refine zw_36 zr_206_83 ?_
                        refine zw_14 (L' := [(2, 69), (0, a0), (0, a1), (1, (0 + x26)), (9, 0), (1, (0 + x27)), (9, 0), (1, ((0 * x27) + (x185 * 1))), (9, 0), (1, (1 * x27)), (9, 0), (1, (0 + f184)), (9, 0), (0, ((0 + 1) + 1)), (1, x193), (9, 0), (1, x194), (9, 0)]) zr_206_84 (Nat.le_of_ble_eq_true rfl) rfl ?_
                        refine zw_6 zr_206_86 rfl ?_
                        refine zw_push zr_206_88 ?_
                        refine zw_39_5 zr_206_89 zr_206_90 ?_ ?_
                        · intro h195
                          refine zw_15 (c := 1) (L' := [(2, 69), (0, a0), (0, a1), (1, (0 + x26)), (9, 0), (1, (0 + x27)), (9, 0), (1, ((0 * x27) + (x185 * 1))), (9, 0), (1, (1 * x27)), (9, 0), (1, (0 + f184)), (9, 0), (0, (((0 + 1) + 1) + 1)), (1, x193), (9, 0), (1, x194), (9, 0)]) zr_206_155 rfl (by decide) (by omega) rfl ?_
                          refine zw_42 zr_206_158 ?_
                          refine zw_4 zr_206_38 rfl ?_
                          refine zw_push zr_206_40 ?_
                          refine zw_41_3 zr_206_41 ?_ ?_
                          · intro h196; omega
                          · intro h197
                            refine zw_7 zr_206_44 rfl ?_
                            refine zw_46r (s := 70) zr_206_45 rfl rfl rfl rfl ?_
                            refine zw_push zr_206_48 ?_
                            refine zw_push zr_206_50 ?_
                            refine zw_3 zr_206_52 rfl ?_
                            refine zw_18 zr_206_53 (by omega) ?_
                            refine zw_16 zr_206_54 (by omega) ?_
                            refine zw_push zr_206_55 ?_
                            refine zw_4 zr_206_56 rfl ?_
                            refine zw_18 zr_206_58 (by omega) ?_
                            refine zw_16 zr_206_59 (by omega) ?_
                            refine zw_48 (c := 70) (len := 826) zr_206_60 rfl rfl (by omega) (by omega) ?_
                            intro x198 ex198
                            have bx198 := ib_70_moves hI0 (k := (((10 + (8 * a0)) + (2 * (((0 + 1) + 1) + 1)))).toNat) (by omega)
                            rw [← ex198] at bx198
                            have qx198 : x198 = F70 (((10 + (8 * a0)) + (2 * (((0 + 1) + 1) + 1)))).toNat := by rw [← hG70]; exact ex198
                            clear ex198
                            refine zw_36 zr_206_61 ?_
                            refine zw_14 (L' := [(2, 69), (0, a0), (0, a1), (1, (0 + x26)), (9, 0), (1, (0 + x27)), (9, 0), (1, ((0 * x27) + (x185 * 1))), (9, 0), (1, (1 * x27)), (9, 0), (1, (0 + f184)), (9, 0), (0, (((0 + 1) + 1) + 1)), (1, x198), (9, 0), (1, x194), (9, 0)]) zr_206_62 (Nat.le_of_ble_eq_true rfl) rfl ?_
                            refine zw_7 zr_206_64 rfl ?_
                            refine zw_46r (s := 70) zr_206_65 rfl rfl rfl rfl ?_
                            refine zw_push zr_206_68 ?_
                            refine zw_push zr_206_70 ?_
                            refine zw_3 zr_206_72 rfl ?_
                            refine zw_18 zr_206_73 (by omega) ?_
                            refine zw_16 zr_206_74 (by omega) ?_
                            refine zw_push zr_206_75 ?_
                            refine zw_4 zr_206_76 rfl ?_
                            refine zw_18 zr_206_78 (by omega) ?_
                            refine zw_16 zr_206_79 (by omega) ?_
                            refine zw_push zr_206_80 ?_
                            refine zw_16 zr_206_81 (by omega) ?_
                            refine zw_48 (c := 70) (len := 826) zr_206_82 rfl rfl (by omega) (by omega) ?_
                            intro x199 ex199
                            have bx199 := ib_70_moves hI0 (k := ((((10 + (8 * a0)) + (2 * (((0 + 1) + 1) + 1))) + 1)).toNat) (by omega)
                            rw [← ex199] at bx199
                            have qx199 : x199 = F70 ((((10 + (8 * a0)) + (2 * (((0 + 1) + 1) + 1))) + 1)).toNat := by rw [← hG70]; exact ex199
                            clear ex199
                            refine zw_36 zr_206_83 ?_
                            refine zw_14 (L' := [(2, 69), (0, a0), (0, a1), (1, (0 + x26)), (9, 0), (1, (0 + x27)), (9, 0), (1, ((0 * x27) + (x185 * 1))), (9, 0), (1, (1 * x27)), (9, 0), (1, (0 + f184)), (9, 0), (0, (((0 + 1) + 1) + 1)), (1, x198), (9, 0), (1, x199), (9, 0)]) zr_206_84 (Nat.le_of_ble_eq_true rfl) rfl ?_
                            refine zw_6 zr_206_86 rfl ?_
                            refine zw_push zr_206_88 ?_
                            refine zw_39_5 zr_206_89 zr_206_90 ?_ ?_
                            · intro h200
                              refine zw_15 (c := 1) (L' := [(2, 69), (0, a0), (0, a1), (1, (0 + x26)), (9, 0), (1, (0 + x27)), (9, 0), (1, ((0 * x27) + (x185 * 1))), (9, 0), (1, (1 * x27)), (9, 0), (1, (0 + f184)), (9, 0), (0, ((((0 + 1) + 1) + 1) + 1)), (1, x198), (9, 0), (1, x199), (9, 0)]) zr_206_155 rfl (by decide) (by omega) rfl ?_
                              refine zw_42 zr_206_158 ?_
                              refine zw_4 zr_206_38 rfl ?_
                              refine zw_push zr_206_40 ?_
                              refine zw_41_3 zr_206_41 ?_ ?_
                              · intro h201
                                refine zw_6 zr_206_161 rfl ?_
                                refine zw_push zr_206_163 ?_
                                refine zw_39_4 zr_206_164 zr_206_165 ?_ ?_
                                · intro h202
                                  refine zw_3 zr_206_171 rfl ?_
                                  refine zw_40_4 zr_206_172 ?_ ?_
                                  · intro h203
                                    refine zw_7 zr_206_185 rfl ?_
                                    refine zw_6 zr_206_186 rfl ?_
                                    refine zw_6 zr_206_188 rfl ?_
                                    refine zw_6 zr_206_190 rfl ?_
                                    refine zw_29p (A := 99) (B := 9) zr_206_192 (by omega) (by omega) (by omega) (by omega) (by decide) ?_
                                    intro x204 hx204a hx204b
                                    refine zw_C zr_206_193 (Or.inl rfl) zm_173 rfl rfl ⟨Nat.le_of_ble_eq_true rfl, Nat.le_of_ble_eq_true rfl, Nat.le_of_ble_eq_true rfl, rfl, by decide⟩ (by omega) (th_173 (d := d - 1) (by omega) hI0 (a0 := ((0 * x27) + (x185 * 1))) (a1 := x204)      (by omega) (by omega) ) ?_
                                    rintro _ m205 ⟨rfl, hIm205, gm205⟩
                                    have hFm205 : zFr W_206 m0 m205 := hF0.trans gm205 rfl
                                    have km205_70_822 : m205 70 822 = g0 := (gm205 70 822 rfl).trans hg0
                                    have km205_70_818 : m205 70 818 = f184 := (gm205 70 818 rfl).trans ef184
                                    have fm205_70 : m205 70 = F70 := (funext fun k => gm205 70 k rfl).trans hG70
                                    show zW E (d) 206 196 [(2, 69), (0, a0), (0, a1), (1, (0 + x26)), (9, 0), (1, (0 + x27)), (9, 0), (1, ((0 * x27) + (x185 * 1))), (9, 0), (1, (1 * x27)), (9, 0), (1, (0 + f184)), (9, 0), (0, ((((0 + 1) + 1) + 1) + 1)), (1, x198), (9, 0), (1, x199), (9, 0)] [] m205 Q
                                    refine zw_push zr_206_196 ?_
                                    refine zw_R zr_206_197 (by decide) zm_206 (v := (0, 1)) rfl ?_
                                    rw [← hQ]; exact ⟨_, rfl, by omega, by omega, hIm205, hFm205, by omega⟩
                                  · intro h207
                                    refine zw_7 zr_206_175 rfl ?_
                                    refine zw_5 zr_206_176 rfl ?_
                                    refine zw_6 zr_206_177 rfl ?_
                                    refine zw_C zr_206_179 (Or.inl rfl) zm_173 rfl rfl ⟨Nat.le_of_ble_eq_true rfl, Nat.le_of_ble_eq_true rfl, Nat.le_of_ble_eq_true rfl, rfl, by decide⟩ (by omega) (th_173 (d := d - 1) (by omega) hI0 (a0 := (0 + x26)) (a1 := (0 + x27))      (by omega) (by omega) ) ?_
                                    rintro _ m208 ⟨rfl, hIm208, gm208⟩
                                    have hFm208 : zFr W_206 m0 m208 := hF0.trans gm208 rfl
                                    have km208_70_822 : m208 70 822 = g0 := (gm208 70 822 rfl).trans hg0
                                    have km208_70_818 : m208 70 818 = f184 := (gm208 70 818 rfl).trans ef184
                                    have fm208_70 : m208 70 = F70 := (funext fun k => gm208 70 k rfl).trans hG70
                                    show zW E (d) 206 182 [(2, 69), (0, a0), (0, a1), (1, (0 + x26)), (9, 0), (1, (0 + x27)), (9, 0), (1, ((0 * x27) + (x185 * 1))), (9, 0), (1, (1 * x27)), (9, 0), (1, (0 + f184)), (9, 0), (0, ((((0 + 1) + 1) + 1) + 1)), (1, x198), (9, 0), (1, x199), (9, 0)] [] m208 Q
                                    refine zw_42 zr_206_182 ?_
                                    refine zw_push zr_206_196 ?_
                                    refine zw_R zr_206_197 (by decide) zm_206 (v := (0, 1)) rfl ?_
                                    rw [← hQ]; exact ⟨_, rfl, by omega, by omega, hIm208, hFm208, by omega⟩
                                · intro h210; omega
                              · intro h211; omega
                            · intro h212
                              refine zw_5 zr_206_93 rfl ?_
                              refine zw_6 zr_206_94 rfl ?_
                              refine zw_27 zr_206_96 (by omega) ?_
                              refine zw_13 (L' := [(2, 69), (0, a0), (0, a1), (1, ((0 + x26) + x198)), (9, 0), (1, (0 + x27)), (9, 0), (1, ((0 * x27) + (x185 * 1))), (9, 0), (1, (1 * x27)), (9, 0), (1, (0 + f184)), (9, 0), (0, (((0 + 1) + 1) + 1)), (1, x198), (9, 0), (1, x199), (9, 0)]) zr_206_97 (Nat.le_of_ble_eq_true rfl) rfl ?_
                              refine zw_6 zr_206_98 rfl ?_
                              refine zw_6 zr_206_100 rfl ?_
                              refine zw_27 zr_206_102 (by omega) ?_
                              refine zw_14 (L' := [(2, 69), (0, a0), (0, a1), (1, ((0 + x26) + x198)), (9, 0), (1, ((0 + x27) + x199)), (9, 0), (1, ((0 * x27) + (x185 * 1))), (9, 0), (1, (1 * x27)), (9, 0), (1, (0 + f184)), (9, 0), (0, (((0 + 1) + 1) + 1)), (1, x198), (9, 0), (1, x199), (9, 0)]) zr_206_103 (Nat.le_of_ble_eq_true rfl) rfl ?_
                              refine zw_6 zr_206_105 rfl ?_
                              refine zw_6 zr_206_107 rfl ?_
                              refine zw_29h zr_206_109 ?_
                              intro x213 hx213a hx213b
                              refine zw_7 zr_206_110 rfl ?_
                              refine zw_46r (s := 70) zr_206_111 rfl rfl rfl rfl ?_
                              refine zw_push zr_206_114 ?_
                              refine zw_4 zr_206_117 rfl ?_
                              refine zw_16 zr_206_119 (by omega) ?_
                              obtain ⟨f214, ef214⟩ : ∃ v, m0 70 821 = v := ⟨_, rfl⟩
                              have bf214 : 1 ≤ m0 70 821 ∧ m0 70 821 ≤ 9 := ib_70_weight hI0 (by omega)
                              rw [ef214] at bf214
                              refine zw_48k (c := 70) (len := 826) zr_206_120 rfl rfl (by omega) (by omega) (show ((818 + (((0 + 1) + 1) + 1)) : Int).toNat = 821 by omega) ef214 ?_
                              refine zw_36 zr_206_121 ?_
                              refine zw_6 zr_206_122 rfl ?_
                              refine zw_29h zr_206_124 ?_
                              intro x215 hx215a hx215b
                              refine zw_6 zr_206_125 rfl ?_
                              refine zw_29h zr_206_127 ?_
                              intro x216 hx216a hx216b
                              refine zw_27h zr_206_128 ?_
                              intro x217 hx217a hx217b
                              refine zw_14 (L' := [(2, 69), (0, a0), (0, a1), (1, ((0 + x26) + x198)), (9, 0), (1, ((0 + x27) + x199)), (9, 0), (1, x217), (9, 0), (1, (1 * x27)), (9, 0), (1, (0 + f184)), (9, 0), (0, (((0 + 1) + 1) + 1)), (1, x198), (9, 0), (1, x199), (9, 0)]) zr_206_129 (Nat.le_of_ble_eq_true rfl) rfl ?_
                              refine zw_6 zr_206_131 rfl ?_
                              refine zw_6 zr_206_133 rfl ?_
                              refine zw_29p (A := 99) (B := 99) zr_206_135 (by omega) (by omega) (by omega) (by omega) (by decide) ?_
                              intro x218 hx218a hx218b
                              refine zw_14 (L' := [(2, 69), (0, a0), (0, a1), (1, ((0 + x26) + x198)), (9, 0), (1, ((0 + x27) + x199)), (9, 0), (1, x217), (9, 0), (1, x218), (9, 0), (1, (0 + f184)), (9, 0), (0, (((0 + 1) + 1) + 1)), (1, x198), (9, 0), (1, x199), (9, 0)]) zr_206_136 (Nat.le_of_ble_eq_true rfl) rfl ?_
                              refine zw_6 zr_206_138 rfl ?_
                              refine zw_7 zr_206_140 rfl ?_
                              refine zw_46r (s := 70) zr_206_141 rfl rfl rfl rfl ?_
                              refine zw_push zr_206_144 ?_
                              refine zw_4 zr_206_147 rfl ?_
                              refine zw_16 zr_206_149 (by omega) ?_
                              refine zw_48k (c := 70) (len := 826) zr_206_150 rfl rfl (by omega) (by omega) (show ((818 + (((0 + 1) + 1) + 1)) : Int).toNat = 821 by omega) ef214 ?_
                              refine zw_36 zr_206_151 ?_
                              refine zw_27 zr_206_152 (by omega) ?_
                              refine zw_14 (L' := [(2, 69), (0, a0), (0, a1), (1, ((0 + x26) + x198)), (9, 0), (1, ((0 + x27) + x199)), (9, 0), (1, x217), (9, 0), (1, x218), (9, 0), (1, ((0 + f184) + f214)), (9, 0), (0, (((0 + 1) + 1) + 1)), (1, x198), (9, 0), (1, x199), (9, 0)]) zr_206_153 (Nat.le_of_ble_eq_true rfl) rfl ?_
                              refine zw_15 (c := 1) (L' := [(2, 69), (0, a0), (0, a1), (1, ((0 + x26) + x198)), (9, 0), (1, ((0 + x27) + x199)), (9, 0), (1, x217), (9, 0), (1, x218), (9, 0), (1, ((0 + f184) + f214)), (9, 0), (0, ((((0 + 1) + 1) + 1) + 1)), (1, x198), (9, 0), (1, x199), (9, 0)]) zr_206_155 rfl (by decide) (by omega) rfl ?_
                              refine zw_42 zr_206_158 ?_
                              refine zw_4 zr_206_38 rfl ?_
                              refine zw_push zr_206_40 ?_
                              refine zw_41_3 zr_206_41 ?_ ?_
                              · intro h219
                                refine zw_6 zr_206_161 rfl ?_
                                refine zw_push zr_206_163 ?_
                                refine zw_39_4 zr_206_164 zr_206_165 ?_ ?_
                                · intro h220
                                  refine zw_3 zr_206_171 rfl ?_
                                  refine zw_40_4 zr_206_172 ?_ ?_
                                  · intro h221
                                    refine zw_7 zr_206_185 rfl ?_
                                    refine zw_6 zr_206_186 rfl ?_
                                    refine zw_6 zr_206_188 rfl ?_
                                    refine zw_6 zr_206_190 rfl ?_
                                    refine zw_29p (A := 9801) (B := 18) zr_206_192 (by omega) (by omega) (by omega) (by omega) (by decide) ?_
                                    intro x222 hx222a hx222b
                                    refine zw_C zr_206_193 (Or.inl rfl) zm_173 rfl rfl ⟨Nat.le_of_ble_eq_true rfl, Nat.le_of_ble_eq_true rfl, Nat.le_of_ble_eq_true rfl, rfl, by decide⟩ (by omega) (th_173 (d := d - 1) (by omega) hI0 (a0 := x217) (a1 := x222)      (by omega) (by omega) ) ?_
                                    rintro _ m223 ⟨rfl, hIm223, gm223⟩
                                    have hFm223 : zFr W_206 m0 m223 := hF0.trans gm223 rfl
                                    have km223_70_822 : m223 70 822 = g0 := (gm223 70 822 rfl).trans hg0
                                    have km223_70_818 : m223 70 818 = f184 := (gm223 70 818 rfl).trans ef184
                                    have km223_70_821 : m223 70 821 = f214 := (gm223 70 821 rfl).trans ef214
                                    have fm223_70 : m223 70 = F70 := (funext fun k => gm223 70 k rfl).trans hG70
                                    show zW E (d) 206 196 [(2, 69), (0, a0), (0, a1), (1, ((0 + x26) + x198)), (9, 0), (1, ((0 + x27) + x199)), (9, 0), (1, x217), (9, 0), (1, x218), (9, 0), (1, ((0 + f184) + f214)), (9, 0), (0, ((((0 + 1) + 1) + 1) + 1)), (1, x198), (9, 0), (1, x199), (9, 0)] [] m223 Q
                                    refine zw_push zr_206_196 ?_
                                    refine zw_R zr_206_197 (by decide) zm_206 (v := (0, 1)) rfl ?_
                                    rw [← hQ]; exact ⟨_, rfl, by omega, by omega, hIm223, hFm223, by omega⟩
                                  · intro h225
                                    refine zw_7 zr_206_175 rfl ?_
                                    refine zw_5 zr_206_176 rfl ?_
                                    refine zw_6 zr_206_177 rfl ?_
                                    refine zw_C zr_206_179 (Or.inl rfl) zm_173 rfl rfl ⟨Nat.le_of_ble_eq_true rfl, Nat.le_of_ble_eq_true rfl, Nat.le_of_ble_eq_true rfl, rfl, by decide⟩ (by omega) (th_173 (d := d - 1) (by omega) hI0 (a0 := ((0 + x26) + x198)) (a1 := ((0 + x27) + x199))      (by omega) (by omega) ) ?_
                                    rintro _ m226 ⟨rfl, hIm226, gm226⟩
                                    have hFm226 : zFr W_206 m0 m226 := hF0.trans gm226 rfl
                                    have km226_70_822 : m226 70 822 = g0 := (gm226 70 822 rfl).trans hg0
                                    have km226_70_818 : m226 70 818 = f184 := (gm226 70 818 rfl).trans ef184
                                    have km226_70_821 : m226 70 821 = f214 := (gm226 70 821 rfl).trans ef214
                                    have fm226_70 : m226 70 = F70 := (funext fun k => gm226 70 k rfl).trans hG70
                                    show zW E (d) 206 182 [(2, 69), (0, a0), (0, a1), (1, ((0 + x26) + x198)), (9, 0), (1, ((0 + x27) + x199)), (9, 0), (1, x217), (9, 0), (1, x218), (9, 0), (1, ((0 + f184) + f214)), (9, 0), (0, ((((0 + 1) + 1) + 1) + 1)), (1, x198), (9, 0), (1, x199), (9, 0)] [] m226 Q
                                    refine zw_42 zr_206_182 ?_
                                    refine zw_push zr_206_196 ?_
                                    refine zw_R zr_206_197 (by decide) zm_206 (v := (0, 1)) rfl ?_
                                    rw [← hQ]; exact ⟨_, rfl, by omega, by omega, hIm226, hFm226, by omega⟩
                                · intro h228; omega
                              · intro h229; omega
                        · intro h230
                          refine zw_5 zr_206_93 rfl ?_
                          refine zw_6 zr_206_94 rfl ?_
                          refine zw_27 zr_206_96 (by omega) ?_
                          refine zw_13 (L' := [(2, 69), (0, a0), (0, a1), (1, ((0 + x26) + x193)), (9, 0), (1, (0 + x27)), (9, 0), (1, ((0 * x27) + (x185 * 1))), (9, 0), (1, (1 * x27)), (9, 0), (1, (0 + f184)), (9, 0), (0, ((0 + 1) + 1)), (1, x193), (9, 0), (1, x194), (9, 0)]) zr_206_97 (Nat.le_of_ble_eq_true rfl) rfl ?_
                          refine zw_6 zr_206_98 rfl ?_
                          refine zw_6 zr_206_100 rfl ?_
                          refine zw_27 zr_206_102 (by omega) ?_
                          refine zw_14 (L' := [(2, 69), (0, a0), (0, a1), (1, ((0 + x26) + x193)), (9, 0), (1, ((0 + x27) + x194)), (9, 0), (1, ((0 * x27) + (x185 * 1))), (9, 0), (1, (1 * x27)), (9, 0), (1, (0 + f184)), (9, 0), (0, ((0 + 1) + 1)), (1, x193), (9, 0), (1, x194), (9, 0)]) zr_206_103 (Nat.le_of_ble_eq_true rfl) rfl ?_
                          refine zw_6 zr_206_105 rfl ?_
                          refine zw_6 zr_206_107 rfl ?_
                          refine zw_29h zr_206_109 ?_
                          intro x231 hx231a hx231b
                          refine zw_7 zr_206_110 rfl ?_
                          refine zw_46r (s := 70) zr_206_111 rfl rfl rfl rfl ?_
                          refine zw_push zr_206_114 ?_
                          refine zw_4 zr_206_117 rfl ?_
                          refine zw_16 zr_206_119 (by omega) ?_
                          obtain ⟨f232, ef232⟩ : ∃ v, m0 70 820 = v := ⟨_, rfl⟩
                          have bf232 : 1 ≤ m0 70 820 ∧ m0 70 820 ≤ 9 := ib_70_weight hI0 (by omega)
                          rw [ef232] at bf232
                          refine zw_48k (c := 70) (len := 826) zr_206_120 rfl rfl (by omega) (by omega) (show ((818 + ((0 + 1) + 1)) : Int).toNat = 820 by omega) ef232 ?_
                          refine zw_36 zr_206_121 ?_
                          refine zw_6 zr_206_122 rfl ?_
                          refine zw_29h zr_206_124 ?_
                          intro x233 hx233a hx233b
                          refine zw_6 zr_206_125 rfl ?_
                          refine zw_29h zr_206_127 ?_
                          intro x234 hx234a hx234b
                          refine zw_27h zr_206_128 ?_
                          intro x235 hx235a hx235b
                          refine zw_14 (L' := [(2, 69), (0, a0), (0, a1), (1, ((0 + x26) + x193)), (9, 0), (1, ((0 + x27) + x194)), (9, 0), (1, x235), (9, 0), (1, (1 * x27)), (9, 0), (1, (0 + f184)), (9, 0), (0, ((0 + 1) + 1)), (1, x193), (9, 0), (1, x194), (9, 0)]) zr_206_129 (Nat.le_of_ble_eq_true rfl) rfl ?_
                          refine zw_6 zr_206_131 rfl ?_
                          refine zw_6 zr_206_133 rfl ?_
                          refine zw_29p (A := 99) (B := 99) zr_206_135 (by omega) (by omega) (by omega) (by omega) (by decide) ?_
                          intro x236 hx236a hx236b
                          refine zw_14 (L' := [(2, 69), (0, a0), (0, a1), (1, ((0 + x26) + x193)), (9, 0), (1, ((0 + x27) + x194)), (9, 0), (1, x235), (9, 0), (1, x236), (9, 0), (1, (0 + f184)), (9, 0), (0, ((0 + 1) + 1)), (1, x193), (9, 0), (1, x194), (9, 0)]) zr_206_136 (Nat.le_of_ble_eq_true rfl) rfl ?_
                          refine zw_6 zr_206_138 rfl ?_
                          refine zw_7 zr_206_140 rfl ?_
                          refine zw_46r (s := 70) zr_206_141 rfl rfl rfl rfl ?_
                          refine zw_push zr_206_144 ?_
                          refine zw_4 zr_206_147 rfl ?_
                          refine zw_16 zr_206_149 (by omega) ?_
                          refine zw_48k (c := 70) (len := 826) zr_206_150 rfl rfl (by omega) (by omega) (show ((818 + ((0 + 1) + 1)) : Int).toNat = 820 by omega) ef232 ?_
                          refine zw_36 zr_206_151 ?_
                          refine zw_27 zr_206_152 (by omega) ?_
                          refine zw_14 (L' := [(2, 69), (0, a0), (0, a1), (1, ((0 + x26) + x193)), (9, 0), (1, ((0 + x27) + x194)), (9, 0), (1, x235), (9, 0), (1, x236), (9, 0), (1, ((0 + f184) + f232)), (9, 0), (0, ((0 + 1) + 1)), (1, x193), (9, 0), (1, x194), (9, 0)]) zr_206_153 (Nat.le_of_ble_eq_true rfl) rfl ?_
                          refine zw_15 (c := 1) (L' := [(2, 69), (0, a0), (0, a1), (1, ((0 + x26) + x193)), (9, 0), (1, ((0 + x27) + x194)), (9, 0), (1, x235), (9, 0), (1, x236), (9, 0), (1, ((0 + f184) + f232)), (9, 0), (0, (((0 + 1) + 1) + 1)), (1, x193), (9, 0), (1, x194), (9, 0)]) zr_206_155 rfl (by decide) (by omega) rfl ?_
                          refine zw_42 zr_206_158 ?_
                          refine zw_4 zr_206_38 rfl ?_
                          refine zw_push zr_206_40 ?_
                          refine zw_41_3 zr_206_41 ?_ ?_
                          · intro h237; omega
                          · intro h238
                            refine zw_7 zr_206_44 rfl ?_
                            refine zw_46r (s := 70) zr_206_45 rfl rfl rfl rfl ?_
                            refine zw_push zr_206_48 ?_
                            refine zw_push zr_206_50 ?_
                            refine zw_3 zr_206_52 rfl ?_
                            refine zw_18 zr_206_53 (by omega) ?_
                            refine zw_16 zr_206_54 (by omega) ?_
                            refine zw_push zr_206_55 ?_
                            refine zw_4 zr_206_56 rfl ?_
                            refine zw_18 zr_206_58 (by omega) ?_
                            refine zw_16 zr_206_59 (by omega) ?_
                            refine zw_48 (c := 70) (len := 826) zr_206_60 rfl rfl (by omega) (by omega) ?_
                            intro x239 ex239
                            have bx239 := ib_70_moves hI0 (k := (((10 + (8 * a0)) + (2 * (((0 + 1) + 1) + 1)))).toNat) (by omega)
                            rw [← ex239] at bx239
                            have qx239 : x239 = F70 (((10 + (8 * a0)) + (2 * (((0 + 1) + 1) + 1)))).toNat := by rw [← hG70]; exact ex239
                            clear ex239
                            refine zw_36 zr_206_61 ?_
                            refine zw_14 (L' := [(2, 69), (0, a0), (0, a1), (1, ((0 + x26) + x193)), (9, 0), (1, ((0 + x27) + x194)), (9, 0), (1, x235), (9, 0), (1, x236), (9, 0), (1, ((0 + f184) + f232)), (9, 0), (0, (((0 + 1) + 1) + 1)), (1, x239), (9, 0), (1, x194), (9, 0)]) zr_206_62 (Nat.le_of_ble_eq_true rfl) rfl ?_
                            refine zw_7 zr_206_64 rfl ?_
                            refine zw_46r (s := 70) zr_206_65 rfl rfl rfl rfl ?_
                            refine zw_push zr_206_68 ?_
                            refine zw_push zr_206_70 ?_
                            refine zw_3 zr_206_72 rfl ?_
                            refine zw_18 zr_206_73 (by omega) ?_
                            refine zw_16 zr_206_74 (by omega) ?_
                            refine zw_push zr_206_75 ?_
                            refine zw_4 zr_206_76 rfl ?_
                            refine zw_18 zr_206_78 (by omega) ?_
                            refine zw_16 zr_206_79 (by omega) ?_
                            refine zw_push zr_206_80 ?_
                            refine zw_16 zr_206_81 (by omega) ?_
                            refine zw_48 (c := 70) (len := 826) zr_206_82 rfl rfl (by omega) (by omega) ?_
                            intro x240 ex240
                            have bx240 := ib_70_moves hI0 (k := ((((10 + (8 * a0)) + (2 * (((0 + 1) + 1) + 1))) + 1)).toNat) (by omega)
                            rw [← ex240] at bx240
                            have qx240 : x240 = F70 ((((10 + (8 * a0)) + (2 * (((0 + 1) + 1) + 1))) + 1)).toNat := by rw [← hG70]; exact ex240
                            clear ex240
                            refine zw_36 zr_206_83 ?_
                            refine zw_14 (L' := [(2, 69), (0, a0), (0, a1), (1, ((0 + x26) + x193)), (9, 0), (1, ((0 + x27) + x194)), (9, 0), (1, x235), (9, 0), (1, x236), (9, 0), (1, ((0 + f184) + f232)), (9, 0), (0, (((0 + 1) + 1) + 1)), (1, x239), (9, 0), (1, x240), (9, 0)]) zr_206_84 (Nat.le_of_ble_eq_true rfl) rfl ?_
                            refine zw_6 zr_206_86 rfl ?_
                            refine zw_push zr_206_88 ?_
                            refine zw_39_5 zr_206_89 zr_206_90 ?_ ?_
                            · intro h241
                              refine zw_15 (c := 1) (L' := [(2, 69), (0, a0), (0, a1), (1, ((0 + x26) + x193)), (9, 0), (1, ((0 + x27) + x194)), (9, 0), (1, x235), (9, 0), (1, x236), (9, 0), (1, ((0 + f184) + f232)), (9, 0), (0, ((((0 + 1) + 1) + 1) + 1)), (1, x239), (9, 0), (1, x240), (9, 0)]) zr_206_155 rfl (by decide) (by omega) rfl ?_
                              refine zw_42 zr_206_158 ?_
                              refine zw_4 zr_206_38 rfl ?_
                              refine zw_push zr_206_40 ?_
                              refine zw_41_3 zr_206_41 ?_ ?_
                              · intro h242
                                refine zw_6 zr_206_161 rfl ?_
                                refine zw_push zr_206_163 ?_
                                refine zw_39_4 zr_206_164 zr_206_165 ?_ ?_
                                · intro h243
                                  refine zw_3 zr_206_171 rfl ?_
                                  refine zw_40_4 zr_206_172 ?_ ?_
                                  · intro h244
                                    refine zw_7 zr_206_185 rfl ?_
                                    refine zw_6 zr_206_186 rfl ?_
                                    refine zw_6 zr_206_188 rfl ?_
                                    refine zw_6 zr_206_190 rfl ?_
                                    refine zw_29p (A := 9801) (B := 18) zr_206_192 (by omega) (by omega) (by omega) (by omega) (by decide) ?_
                                    intro x245 hx245a hx245b
                                    refine zw_C zr_206_193 (Or.inl rfl) zm_173 rfl rfl ⟨Nat.le_of_ble_eq_true rfl, Nat.le_of_ble_eq_true rfl, Nat.le_of_ble_eq_true rfl, rfl, by decide⟩ (by omega) (th_173 (d := d - 1) (by omega) hI0 (a0 := x235) (a1 := x245)      (by omega) (by omega) ) ?_
                                    rintro _ m246 ⟨rfl, hIm246, gm246⟩
                                    have hFm246 : zFr W_206 m0 m246 := hF0.trans gm246 rfl
                                    have km246_70_822 : m246 70 822 = g0 := (gm246 70 822 rfl).trans hg0
                                    have km246_70_818 : m246 70 818 = f184 := (gm246 70 818 rfl).trans ef184
                                    have km246_70_820 : m246 70 820 = f232 := (gm246 70 820 rfl).trans ef232
                                    have fm246_70 : m246 70 = F70 := (funext fun k => gm246 70 k rfl).trans hG70
                                    show zW E (d) 206 196 [(2, 69), (0, a0), (0, a1), (1, ((0 + x26) + x193)), (9, 0), (1, ((0 + x27) + x194)), (9, 0), (1, x235), (9, 0), (1, x236), (9, 0), (1, ((0 + f184) + f232)), (9, 0), (0, ((((0 + 1) + 1) + 1) + 1)), (1, x239), (9, 0), (1, x240), (9, 0)] [] m246 Q
                                    refine zw_push zr_206_196 ?_
                                    refine zw_R zr_206_197 (by decide) zm_206 (v := (0, 1)) rfl ?_
                                    rw [← hQ]; exact ⟨_, rfl, by omega, by omega, hIm246, hFm246, by omega⟩
                                  · intro h248
                                    refine zw_7 zr_206_175 rfl ?_
                                    refine zw_5 zr_206_176 rfl ?_
                                    refine zw_6 zr_206_177 rfl ?_
                                    refine zw_C zr_206_179 (Or.inl rfl) zm_173 rfl rfl ⟨Nat.le_of_ble_eq_true rfl, Nat.le_of_ble_eq_true rfl, Nat.le_of_ble_eq_true rfl, rfl, by decide⟩ (by omega) (th_173 (d := d - 1) (by omega) hI0 (a0 := ((0 + x26) + x193)) (a1 := ((0 + x27) + x194))      (by omega) (by omega) ) ?_
                                    rintro _ m249 ⟨rfl, hIm249, gm249⟩
                                    have hFm249 : zFr W_206 m0 m249 := hF0.trans gm249 rfl
                                    have km249_70_822 : m249 70 822 = g0 := (gm249 70 822 rfl).trans hg0
                                    have km249_70_818 : m249 70 818 = f184 := (gm249 70 818 rfl).trans ef184
                                    have km249_70_820 : m249 70 820 = f232 := (gm249 70 820 rfl).trans ef232
                                    have fm249_70 : m249 70 = F70 := (funext fun k => gm249 70 k rfl).trans hG70
                                    show zW E (d) 206 182 [(2, 69), (0, a0), (0, a1), (1, ((0 + x26) + x193)), (9, 0), (1, ((0 + x27) + x194)), (9, 0), (1, x235), (9, 0), (1, x236), (9, 0), (1, ((0 + f184) + f232)), (9, 0), (0, ((((0 + 1) + 1) + 1) + 1)), (1, x239), (9, 0), (1, x240), (9, 0)] [] m249 Q
                                    refine zw_42 zr_206_182 ?_
                                    refine zw_push zr_206_196 ?_
                                    refine zw_R zr_206_197 (by decide) zm_206 (v := (0, 1)) rfl ?_
                                    rw [← hQ]; exact ⟨_, rfl, by omega, by omega, hIm249, hFm249, by omega⟩
                                · intro h251; omega
                              · intro h252; omega
                            · intro h253
                              refine zw_5 zr_206_93 rfl ?_
                              refine zw_6 zr_206_94 rfl ?_
                              refine zw_27 zr_206_96 (by omega) ?_
                              refine zw_13 (L' := [(2, 69), (0, a0), (0, a1), (1, (((0 + x26) + x193) + x239)), (9, 0), (1, ((0 + x27) + x194)), (9, 0), (1, x235), (9, 0), (1, x236), (9, 0), (1, ((0 + f184) + f232)), (9, 0), (0, (((0 + 1) + 1) + 1)), (1, x239), (9, 0), (1, x240), (9, 0)]) zr_206_97 (Nat.le_of_ble_eq_true rfl) rfl ?_
                              refine zw_6 zr_206_98 rfl ?_
                              refine zw_6 zr_206_100 rfl ?_
                              refine zw_27 zr_206_102 (by omega) ?_
                              refine zw_14 (L' := [(2, 69), (0, a0), (0, a1), (1, (((0 + x26) + x193) + x239)), (9, 0), (1, (((0 + x27) + x194) + x240)), (9, 0), (1, x235), (9, 0), (1, x236), (9, 0), (1, ((0 + f184) + f232)), (9, 0), (0, (((0 + 1) + 1) + 1)), (1, x239), (9, 0), (1, x240), (9, 0)]) zr_206_103 (Nat.le_of_ble_eq_true rfl) rfl ?_
                              refine zw_6 zr_206_105 rfl ?_
                              refine zw_6 zr_206_107 rfl ?_
                              refine zw_29h zr_206_109 ?_
                              intro x254 hx254a hx254b
                              refine zw_7 zr_206_110 rfl ?_
                              refine zw_46r (s := 70) zr_206_111 rfl rfl rfl rfl ?_
                              refine zw_push zr_206_114 ?_
                              refine zw_4 zr_206_117 rfl ?_
                              refine zw_16 zr_206_119 (by omega) ?_
                              obtain ⟨f255, ef255⟩ : ∃ v, m0 70 821 = v := ⟨_, rfl⟩
                              have bf255 : 1 ≤ m0 70 821 ∧ m0 70 821 ≤ 9 := ib_70_weight hI0 (by omega)
                              rw [ef255] at bf255
                              refine zw_48k (c := 70) (len := 826) zr_206_120 rfl rfl (by omega) (by omega) (show ((818 + (((0 + 1) + 1) + 1)) : Int).toNat = 821 by omega) ef255 ?_
                              refine zw_36 zr_206_121 ?_
                              refine zw_6 zr_206_122 rfl ?_
                              refine zw_29h zr_206_124 ?_
                              intro x256 hx256a hx256b
                              refine zw_6 zr_206_125 rfl ?_
                              refine zw_29h zr_206_127 ?_
                              intro x257 hx257a hx257b
                              refine zw_27h zr_206_128 ?_
                              intro x258 hx258a hx258b
                              refine zw_14 (L' := [(2, 69), (0, a0), (0, a1), (1, (((0 + x26) + x193) + x239)), (9, 0), (1, (((0 + x27) + x194) + x240)), (9, 0), (1, x258), (9, 0), (1, x236), (9, 0), (1, ((0 + f184) + f232)), (9, 0), (0, (((0 + 1) + 1) + 1)), (1, x239), (9, 0), (1, x240), (9, 0)]) zr_206_129 (Nat.le_of_ble_eq_true rfl) rfl ?_
                              refine zw_6 zr_206_131 rfl ?_
                              refine zw_6 zr_206_133 rfl ?_
                              refine zw_29p (A := 9801) (B := 99) zr_206_135 (by omega) (by omega) (by omega) (by omega) (by decide) ?_
                              intro x259 hx259a hx259b
                              refine zw_14 (L' := [(2, 69), (0, a0), (0, a1), (1, (((0 + x26) + x193) + x239)), (9, 0), (1, (((0 + x27) + x194) + x240)), (9, 0), (1, x258), (9, 0), (1, x259), (9, 0), (1, ((0 + f184) + f232)), (9, 0), (0, (((0 + 1) + 1) + 1)), (1, x239), (9, 0), (1, x240), (9, 0)]) zr_206_136 (Nat.le_of_ble_eq_true rfl) rfl ?_
                              refine zw_6 zr_206_138 rfl ?_
                              refine zw_7 zr_206_140 rfl ?_
                              refine zw_46r (s := 70) zr_206_141 rfl rfl rfl rfl ?_
                              refine zw_push zr_206_144 ?_
                              refine zw_4 zr_206_147 rfl ?_
                              refine zw_16 zr_206_149 (by omega) ?_
                              refine zw_48k (c := 70) (len := 826) zr_206_150 rfl rfl (by omega) (by omega) (show ((818 + (((0 + 1) + 1) + 1)) : Int).toNat = 821 by omega) ef255 ?_
                              refine zw_36 zr_206_151 ?_
                              refine zw_27 zr_206_152 (by omega) ?_
                              refine zw_14 (L' := [(2, 69), (0, a0), (0, a1), (1, (((0 + x26) + x193) + x239)), (9, 0), (1, (((0 + x27) + x194) + x240)), (9, 0), (1, x258), (9, 0), (1, x259), (9, 0), (1, (((0 + f184) + f232) + f255)), (9, 0), (0, (((0 + 1) + 1) + 1)), (1, x239), (9, 0), (1, x240), (9, 0)]) zr_206_153 (Nat.le_of_ble_eq_true rfl) rfl ?_
                              refine zw_15 (c := 1) (L' := [(2, 69), (0, a0), (0, a1), (1, (((0 + x26) + x193) + x239)), (9, 0), (1, (((0 + x27) + x194) + x240)), (9, 0), (1, x258), (9, 0), (1, x259), (9, 0), (1, (((0 + f184) + f232) + f255)), (9, 0), (0, ((((0 + 1) + 1) + 1) + 1)), (1, x239), (9, 0), (1, x240), (9, 0)]) zr_206_155 rfl (by decide) (by omega) rfl ?_
                              refine zw_42 zr_206_158 ?_
                              refine zw_4 zr_206_38 rfl ?_
                              refine zw_push zr_206_40 ?_
                              refine zw_41_3 zr_206_41 ?_ ?_
                              · intro h260
                                refine zw_6 zr_206_161 rfl ?_
                                refine zw_push zr_206_163 ?_
                                refine zw_39_4 zr_206_164 zr_206_165 ?_ ?_
                                · intro h261
                                  refine zw_3 zr_206_171 rfl ?_
                                  refine zw_40_4 zr_206_172 ?_ ?_
                                  · intro h262
                                    refine zw_7 zr_206_185 rfl ?_
                                    refine zw_6 zr_206_186 rfl ?_
                                    refine zw_6 zr_206_188 rfl ?_
                                    refine zw_6 zr_206_190 rfl ?_
                                    refine zw_29p (A := 970299) (B := 27) zr_206_192 (by omega) (by omega) (by omega) (by omega) (by decide) ?_
                                    intro x263 hx263a hx263b
                                    refine zw_C zr_206_193 (Or.inl rfl) zm_173 rfl rfl ⟨Nat.le_of_ble_eq_true rfl, Nat.le_of_ble_eq_true rfl, Nat.le_of_ble_eq_true rfl, rfl, by decide⟩ (by omega) (th_173 (d := d - 1) (by omega) hI0 (a0 := x258) (a1 := x263)      (by omega) (by omega) ) ?_
                                    rintro _ m264 ⟨rfl, hIm264, gm264⟩
                                    have hFm264 : zFr W_206 m0 m264 := hF0.trans gm264 rfl
                                    have km264_70_822 : m264 70 822 = g0 := (gm264 70 822 rfl).trans hg0
                                    have km264_70_818 : m264 70 818 = f184 := (gm264 70 818 rfl).trans ef184
                                    have km264_70_820 : m264 70 820 = f232 := (gm264 70 820 rfl).trans ef232
                                    have km264_70_821 : m264 70 821 = f255 := (gm264 70 821 rfl).trans ef255
                                    have fm264_70 : m264 70 = F70 := (funext fun k => gm264 70 k rfl).trans hG70
                                    show zW E (d) 206 196 [(2, 69), (0, a0), (0, a1), (1, (((0 + x26) + x193) + x239)), (9, 0), (1, (((0 + x27) + x194) + x240)), (9, 0), (1, x258), (9, 0), (1, x259), (9, 0), (1, (((0 + f184) + f232) + f255)), (9, 0), (0, ((((0 + 1) + 1) + 1) + 1)), (1, x239), (9, 0), (1, x240), (9, 0)] [] m264 Q
                                    refine zw_push zr_206_196 ?_
                                    refine zw_R zr_206_197 (by decide) zm_206 (v := (0, 1)) rfl ?_
                                    rw [← hQ]; exact ⟨_, rfl, by omega, by omega, hIm264, hFm264, by omega⟩
                                  · intro h266
                                    refine zw_7 zr_206_175 rfl ?_
                                    refine zw_5 zr_206_176 rfl ?_
                                    refine zw_6 zr_206_177 rfl ?_
                                    refine zw_C zr_206_179 (Or.inl rfl) zm_173 rfl rfl ⟨Nat.le_of_ble_eq_true rfl, Nat.le_of_ble_eq_true rfl, Nat.le_of_ble_eq_true rfl, rfl, by decide⟩ (by omega) (th_173 (d := d - 1) (by omega) hI0 (a0 := (((0 + x26) + x193) + x239)) (a1 := (((0 + x27) + x194) + x240))      (by omega) (by omega) ) ?_
                                    rintro _ m267 ⟨rfl, hIm267, gm267⟩
                                    have hFm267 : zFr W_206 m0 m267 := hF0.trans gm267 rfl
                                    have km267_70_822 : m267 70 822 = g0 := (gm267 70 822 rfl).trans hg0
                                    have km267_70_818 : m267 70 818 = f184 := (gm267 70 818 rfl).trans ef184
                                    have km267_70_820 : m267 70 820 = f232 := (gm267 70 820 rfl).trans ef232
                                    have km267_70_821 : m267 70 821 = f255 := (gm267 70 821 rfl).trans ef255
                                    have fm267_70 : m267 70 = F70 := (funext fun k => gm267 70 k rfl).trans hG70
                                    show zW E (d) 206 182 [(2, 69), (0, a0), (0, a1), (1, (((0 + x26) + x193) + x239)), (9, 0), (1, (((0 + x27) + x194) + x240)), (9, 0), (1, x258), (9, 0), (1, x259), (9, 0), (1, (((0 + f184) + f232) + f255)), (9, 0), (0, ((((0 + 1) + 1) + 1) + 1)), (1, x239), (9, 0), (1, x240), (9, 0)] [] m267 Q
                                    refine zw_42 zr_206_182 ?_
                                    refine zw_push zr_206_196 ?_
                                    refine zw_R zr_206_197 (by decide) zm_206 (v := (0, 1)) rfl ?_
                                    rw [← hQ]; exact ⟨_, rfl, by omega, by omega, hIm267, hFm267, by omega⟩
                                · intro h269; omega
                              · intro h270; omega
                    · intro h271
                      refine zw_5 zr_206_93 rfl ?_
                      refine zw_6 zr_206_94 rfl ?_
                      refine zw_27 zr_206_96 (by omega) ?_
                      refine zw_13 (L' := [(2, 69), (0, a0), (0, a1), (1, ((0 + x26) + x188)), (9, 0), (1, (0 + x27)), (9, 0), (1, ((0 * x27) + (x185 * 1))), (9, 0), (1, (1 * x27)), (9, 0), (1, (0 + f184)), (9, 0), (0, (0 + 1)), (1, x188), (9, 0), (1, x189), (9, 0)]) zr_206_97 (Nat.le_of_ble_eq_true rfl) rfl ?_
                      refine zw_6 zr_206_98 rfl ?_
                      refine zw_6 zr_206_100 rfl ?_
                      refine zw_27 zr_206_102 (by omega) ?_
                      refine zw_14 (L' := [(2, 69), (0, a0), (0, a1), (1, ((0 + x26) + x188)), (9, 0), (1, ((0 + x27) + x189)), (9, 0), (1, ((0 * x27) + (x185 * 1))), (9, 0), (1, (1 * x27)), (9, 0), (1, (0 + f184)), (9, 0), (0, (0 + 1)), (1, x188), (9, 0), (1, x189), (9, 0)]) zr_206_103 (Nat.le_of_ble_eq_true rfl) rfl ?_
                      refine zw_6 zr_206_105 rfl ?_
                      refine zw_6 zr_206_107 rfl ?_
                      refine zw_29h zr_206_109 ?_
                      intro x272 hx272a hx272b
                      refine zw_7 zr_206_110 rfl ?_
                      refine zw_46r (s := 70) zr_206_111 rfl rfl rfl rfl ?_
                      refine zw_push zr_206_114 ?_
                      refine zw_4 zr_206_117 rfl ?_
                      refine zw_16 zr_206_119 (by omega) ?_
                      obtain ⟨f273, ef273⟩ : ∃ v, m0 70 819 = v := ⟨_, rfl⟩
                      have bf273 : 1 ≤ m0 70 819 ∧ m0 70 819 ≤ 9 := ib_70_weight hI0 (by omega)
                      rw [ef273] at bf273
                      refine zw_48k (c := 70) (len := 826) zr_206_120 rfl rfl (by omega) (by omega) (show ((818 + (0 + 1)) : Int).toNat = 819 by omega) ef273 ?_
                      refine zw_36 zr_206_121 ?_
                      refine zw_6 zr_206_122 rfl ?_
                      refine zw_29h zr_206_124 ?_
                      intro x274 hx274a hx274b
                      refine zw_6 zr_206_125 rfl ?_
                      refine zw_29h zr_206_127 ?_
                      intro x275 hx275a hx275b
                      refine zw_27h zr_206_128 ?_
                      intro x276 hx276a hx276b
                      refine zw_14 (L' := [(2, 69), (0, a0), (0, a1), (1, ((0 + x26) + x188)), (9, 0), (1, ((0 + x27) + x189)), (9, 0), (1, x276), (9, 0), (1, (1 * x27)), (9, 0), (1, (0 + f184)), (9, 0), (0, (0 + 1)), (1, x188), (9, 0), (1, x189), (9, 0)]) zr_206_129 (Nat.le_of_ble_eq_true rfl) rfl ?_
                      refine zw_6 zr_206_131 rfl ?_
                      refine zw_6 zr_206_133 rfl ?_
                      refine zw_29p (A := 99) (B := 99) zr_206_135 (by omega) (by omega) (by omega) (by omega) (by decide) ?_
                      intro x277 hx277a hx277b
                      refine zw_14 (L' := [(2, 69), (0, a0), (0, a1), (1, ((0 + x26) + x188)), (9, 0), (1, ((0 + x27) + x189)), (9, 0), (1, x276), (9, 0), (1, x277), (9, 0), (1, (0 + f184)), (9, 0), (0, (0 + 1)), (1, x188), (9, 0), (1, x189), (9, 0)]) zr_206_136 (Nat.le_of_ble_eq_true rfl) rfl ?_
                      refine zw_6 zr_206_138 rfl ?_
                      refine zw_7 zr_206_140 rfl ?_
                      refine zw_46r (s := 70) zr_206_141 rfl rfl rfl rfl ?_
                      refine zw_push zr_206_144 ?_
                      refine zw_4 zr_206_147 rfl ?_
                      refine zw_16 zr_206_149 (by omega) ?_
                      refine zw_48k (c := 70) (len := 826) zr_206_150 rfl rfl (by omega) (by omega) (show ((818 + (0 + 1)) : Int).toNat = 819 by omega) ef273 ?_
                      refine zw_36 zr_206_151 ?_
                      refine zw_27 zr_206_152 (by omega) ?_
                      refine zw_14 (L' := [(2, 69), (0, a0), (0, a1), (1, ((0 + x26) + x188)), (9, 0), (1, ((0 + x27) + x189)), (9, 0), (1, x276), (9, 0), (1, x277), (9, 0), (1, ((0 + f184) + f273)), (9, 0), (0, (0 + 1)), (1, x188), (9, 0), (1, x189), (9, 0)]) zr_206_153 (Nat.le_of_ble_eq_true rfl) rfl ?_
                      refine zw_15 (c := 1) (L' := [(2, 69), (0, a0), (0, a1), (1, ((0 + x26) + x188)), (9, 0), (1, ((0 + x27) + x189)), (9, 0), (1, x276), (9, 0), (1, x277), (9, 0), (1, ((0 + f184) + f273)), (9, 0), (0, ((0 + 1) + 1)), (1, x188), (9, 0), (1, x189), (9, 0)]) zr_206_155 rfl (by decide) (by omega) rfl ?_
                      refine zw_42 zr_206_158 ?_
                      refine zw_4 zr_206_38 rfl ?_
                      refine zw_push zr_206_40 ?_
                      refine zw_41_3 zr_206_41 ?_ ?_
                      · intro h278; omega
                      · intro h279
                        refine zw_7 zr_206_44 rfl ?_
                        refine zw_46r (s := 70) zr_206_45 rfl rfl rfl rfl ?_
                        refine zw_push zr_206_48 ?_
                        refine zw_push zr_206_50 ?_
                        refine zw_3 zr_206_52 rfl ?_
                        refine zw_18 zr_206_53 (by omega) ?_
                        refine zw_16 zr_206_54 (by omega) ?_
                        refine zw_push zr_206_55 ?_
                        refine zw_4 zr_206_56 rfl ?_
                        refine zw_18 zr_206_58 (by omega) ?_
                        refine zw_16 zr_206_59 (by omega) ?_
                        refine zw_48 (c := 70) (len := 826) zr_206_60 rfl rfl (by omega) (by omega) ?_
                        intro x280 ex280
                        have bx280 := ib_70_moves hI0 (k := (((10 + (8 * a0)) + (2 * ((0 + 1) + 1)))).toNat) (by omega)
                        rw [← ex280] at bx280
                        have qx280 : x280 = F70 (((10 + (8 * a0)) + (2 * ((0 + 1) + 1)))).toNat := by rw [← hG70]; exact ex280
                        clear ex280
                        refine zw_36 zr_206_61 ?_
                        refine zw_14 (L' := [(2, 69), (0, a0), (0, a1), (1, ((0 + x26) + x188)), (9, 0), (1, ((0 + x27) + x189)), (9, 0), (1, x276), (9, 0), (1, x277), (9, 0), (1, ((0 + f184) + f273)), (9, 0), (0, ((0 + 1) + 1)), (1, x280), (9, 0), (1, x189), (9, 0)]) zr_206_62 (Nat.le_of_ble_eq_true rfl) rfl ?_
                        refine zw_7 zr_206_64 rfl ?_
                        refine zw_46r (s := 70) zr_206_65 rfl rfl rfl rfl ?_
                        refine zw_push zr_206_68 ?_
                        refine zw_push zr_206_70 ?_
                        refine zw_3 zr_206_72 rfl ?_
                        refine zw_18 zr_206_73 (by omega) ?_
                        refine zw_16 zr_206_74 (by omega) ?_
                        refine zw_push zr_206_75 ?_
                        refine zw_4 zr_206_76 rfl ?_
                        refine zw_18 zr_206_78 (by omega) ?_
                        refine zw_16 zr_206_79 (by omega) ?_
                        refine zw_push zr_206_80 ?_
                        refine zw_16 zr_206_81 (by omega) ?_
                        refine zw_48 (c := 70) (len := 826) zr_206_82 rfl rfl (by omega) (by omega) ?_
                        intro x281 ex281
                        have bx281 := ib_70_moves hI0 (k := ((((10 + (8 * a0)) + (2 * ((0 + 1) + 1))) + 1)).toNat) (by omega)
                        rw [← ex281] at bx281
                        have qx281 : x281 = F70 ((((10 + (8 * a0)) + (2 * ((0 + 1) + 1))) + 1)).toNat := by rw [← hG70]; exact ex281
                        clear ex281
                        refine zw_36 zr_206_83 ?_
                        refine zw_14 (L' := [(2, 69), (0, a0), (0, a1), (1, ((0 + x26) + x188)), (9, 0), (1, ((0 + x27) + x189)), (9, 0), (1, x276), (9, 0), (1, x277), (9, 0), (1, ((0 + f184) + f273)), (9, 0), (0, ((0 + 1) + 1)), (1, x280), (9, 0), (1, x281), (9, 0)]) zr_206_84 (Nat.le_of_ble_eq_true rfl) rfl ?_
                        refine zw_6 zr_206_86 rfl ?_
                        refine zw_push zr_206_88 ?_
                        refine zw_39_5 zr_206_89 zr_206_90 ?_ ?_
                        · intro h282
                          refine zw_15 (c := 1) (L' := [(2, 69), (0, a0), (0, a1), (1, ((0 + x26) + x188)), (9, 0), (1, ((0 + x27) + x189)), (9, 0), (1, x276), (9, 0), (1, x277), (9, 0), (1, ((0 + f184) + f273)), (9, 0), (0, (((0 + 1) + 1) + 1)), (1, x280), (9, 0), (1, x281), (9, 0)]) zr_206_155 rfl (by decide) (by omega) rfl ?_
                          refine zw_42 zr_206_158 ?_
                          refine zw_4 zr_206_38 rfl ?_
                          refine zw_push zr_206_40 ?_
                          refine zw_41_3 zr_206_41 ?_ ?_
                          · intro h283; omega
                          · intro h284
                            refine zw_7 zr_206_44 rfl ?_
                            refine zw_46r (s := 70) zr_206_45 rfl rfl rfl rfl ?_
                            refine zw_push zr_206_48 ?_
                            refine zw_push zr_206_50 ?_
                            refine zw_3 zr_206_52 rfl ?_
                            refine zw_18 zr_206_53 (by omega) ?_
                            refine zw_16 zr_206_54 (by omega) ?_
                            refine zw_push zr_206_55 ?_
                            refine zw_4 zr_206_56 rfl ?_
                            refine zw_18 zr_206_58 (by omega) ?_
                            refine zw_16 zr_206_59 (by omega) ?_
                            refine zw_48 (c := 70) (len := 826) zr_206_60 rfl rfl (by omega) (by omega) ?_
                            intro x285 ex285
                            have bx285 := ib_70_moves hI0 (k := (((10 + (8 * a0)) + (2 * (((0 + 1) + 1) + 1)))).toNat) (by omega)
                            rw [← ex285] at bx285
                            have qx285 : x285 = F70 (((10 + (8 * a0)) + (2 * (((0 + 1) + 1) + 1)))).toNat := by rw [← hG70]; exact ex285
                            clear ex285
                            refine zw_36 zr_206_61 ?_
                            refine zw_14 (L' := [(2, 69), (0, a0), (0, a1), (1, ((0 + x26) + x188)), (9, 0), (1, ((0 + x27) + x189)), (9, 0), (1, x276), (9, 0), (1, x277), (9, 0), (1, ((0 + f184) + f273)), (9, 0), (0, (((0 + 1) + 1) + 1)), (1, x285), (9, 0), (1, x281), (9, 0)]) zr_206_62 (Nat.le_of_ble_eq_true rfl) rfl ?_
                            refine zw_7 zr_206_64 rfl ?_
                            refine zw_46r (s := 70) zr_206_65 rfl rfl rfl rfl ?_
                            refine zw_push zr_206_68 ?_
                            refine zw_push zr_206_70 ?_
                            refine zw_3 zr_206_72 rfl ?_
                            refine zw_18 zr_206_73 (by omega) ?_
                            refine zw_16 zr_206_74 (by omega) ?_
                            refine zw_push zr_206_75 ?_
                            refine zw_4 zr_206_76 rfl ?_
                            refine zw_18 zr_206_78 (by omega) ?_
                            refine zw_16 zr_206_79 (by omega) ?_
                            refine zw_push zr_206_80 ?_
                            refine zw_16 zr_206_81 (by omega) ?_
                            refine zw_48 (c := 70) (len := 826) zr_206_82 rfl rfl (by omega) (by omega) ?_
                            intro x286 ex286
                            have bx286 := ib_70_moves hI0 (k := ((((10 + (8 * a0)) + (2 * (((0 + 1) + 1) + 1))) + 1)).toNat) (by omega)
                            rw [← ex286] at bx286
                            have qx286 : x286 = F70 ((((10 + (8 * a0)) + (2 * (((0 + 1) + 1) + 1))) + 1)).toNat := by rw [← hG70]; exact ex286
                            clear ex286
                            refine zw_36 zr_206_83 ?_
                            refine zw_14 (L' := [(2, 69), (0, a0), (0, a1), (1, ((0 + x26) + x188)), (9, 0), (1, ((0 + x27) + x189)), (9, 0), (1, x276), (9, 0), (1, x277), (9, 0), (1, ((0 + f184) + f273)), (9, 0), (0, (((0 + 1) + 1) + 1)), (1, x285), (9, 0), (1, x286), (9, 0)]) zr_206_84 (Nat.le_of_ble_eq_true rfl) rfl ?_
                            refine zw_6 zr_206_86 rfl ?_
                            refine zw_push zr_206_88 ?_
                            refine zw_39_5 zr_206_89 zr_206_90 ?_ ?_
                            · intro h287
                              refine zw_15 (c := 1) (L' := [(2, 69), (0, a0), (0, a1), (1, ((0 + x26) + x188)), (9, 0), (1, ((0 + x27) + x189)), (9, 0), (1, x276), (9, 0), (1, x277), (9, 0), (1, ((0 + f184) + f273)), (9, 0), (0, ((((0 + 1) + 1) + 1) + 1)), (1, x285), (9, 0), (1, x286), (9, 0)]) zr_206_155 rfl (by decide) (by omega) rfl ?_
                              refine zw_42 zr_206_158 ?_
                              refine zw_4 zr_206_38 rfl ?_
                              refine zw_push zr_206_40 ?_
                              refine zw_41_3 zr_206_41 ?_ ?_
                              · intro h288
                                refine zw_6 zr_206_161 rfl ?_
                                refine zw_push zr_206_163 ?_
                                refine zw_39_4 zr_206_164 zr_206_165 ?_ ?_
                                · intro h289
                                  refine zw_3 zr_206_171 rfl ?_
                                  refine zw_40_4 zr_206_172 ?_ ?_
                                  · intro h290
                                    refine zw_7 zr_206_185 rfl ?_
                                    refine zw_6 zr_206_186 rfl ?_
                                    refine zw_6 zr_206_188 rfl ?_
                                    refine zw_6 zr_206_190 rfl ?_
                                    refine zw_29p (A := 9801) (B := 18) zr_206_192 (by omega) (by omega) (by omega) (by omega) (by decide) ?_
                                    intro x291 hx291a hx291b
                                    refine zw_C zr_206_193 (Or.inl rfl) zm_173 rfl rfl ⟨Nat.le_of_ble_eq_true rfl, Nat.le_of_ble_eq_true rfl, Nat.le_of_ble_eq_true rfl, rfl, by decide⟩ (by omega) (th_173 (d := d - 1) (by omega) hI0 (a0 := x276) (a1 := x291)      (by omega) (by omega) ) ?_
                                    rintro _ m292 ⟨rfl, hIm292, gm292⟩
                                    have hFm292 : zFr W_206 m0 m292 := hF0.trans gm292 rfl
                                    have km292_70_822 : m292 70 822 = g0 := (gm292 70 822 rfl).trans hg0
                                    have km292_70_818 : m292 70 818 = f184 := (gm292 70 818 rfl).trans ef184
                                    have km292_70_819 : m292 70 819 = f273 := (gm292 70 819 rfl).trans ef273
                                    have fm292_70 : m292 70 = F70 := (funext fun k => gm292 70 k rfl).trans hG70
                                    show zW E (d) 206 196 [(2, 69), (0, a0), (0, a1), (1, ((0 + x26) + x188)), (9, 0), (1, ((0 + x27) + x189)), (9, 0), (1, x276), (9, 0), (1, x277), (9, 0), (1, ((0 + f184) + f273)), (9, 0), (0, ((((0 + 1) + 1) + 1) + 1)), (1, x285), (9, 0), (1, x286), (9, 0)] [] m292 Q
                                    refine zw_push zr_206_196 ?_
                                    refine zw_R zr_206_197 (by decide) zm_206 (v := (0, 1)) rfl ?_
                                    rw [← hQ]; exact ⟨_, rfl, by omega, by omega, hIm292, hFm292, by omega⟩
                                  · intro h294
                                    refine zw_7 zr_206_175 rfl ?_
                                    refine zw_5 zr_206_176 rfl ?_
                                    refine zw_6 zr_206_177 rfl ?_
                                    refine zw_C zr_206_179 (Or.inl rfl) zm_173 rfl rfl ⟨Nat.le_of_ble_eq_true rfl, Nat.le_of_ble_eq_true rfl, Nat.le_of_ble_eq_true rfl, rfl, by decide⟩ (by omega) (th_173 (d := d - 1) (by omega) hI0 (a0 := ((0 + x26) + x188)) (a1 := ((0 + x27) + x189))      (by omega) (by omega) ) ?_
                                    rintro _ m295 ⟨rfl, hIm295, gm295⟩
                                    have hFm295 : zFr W_206 m0 m295 := hF0.trans gm295 rfl
                                    have km295_70_822 : m295 70 822 = g0 := (gm295 70 822 rfl).trans hg0
                                    have km295_70_818 : m295 70 818 = f184 := (gm295 70 818 rfl).trans ef184
                                    have km295_70_819 : m295 70 819 = f273 := (gm295 70 819 rfl).trans ef273
                                    have fm295_70 : m295 70 = F70 := (funext fun k => gm295 70 k rfl).trans hG70
                                    show zW E (d) 206 182 [(2, 69), (0, a0), (0, a1), (1, ((0 + x26) + x188)), (9, 0), (1, ((0 + x27) + x189)), (9, 0), (1, x276), (9, 0), (1, x277), (9, 0), (1, ((0 + f184) + f273)), (9, 0), (0, ((((0 + 1) + 1) + 1) + 1)), (1, x285), (9, 0), (1, x286), (9, 0)] [] m295 Q
                                    refine zw_42 zr_206_182 ?_
                                    refine zw_push zr_206_196 ?_
                                    refine zw_R zr_206_197 (by decide) zm_206 (v := (0, 1)) rfl ?_
                                    rw [← hQ]; exact ⟨_, rfl, by omega, by omega, hIm295, hFm295, by omega⟩
                                · intro h297; omega
                              · intro h298; omega
                            · intro h299
                              refine zw_5 zr_206_93 rfl ?_
                              refine zw_6 zr_206_94 rfl ?_
                              refine zw_27 zr_206_96 (by omega) ?_
                              refine zw_13 (L' := [(2, 69), (0, a0), (0, a1), (1, (((0 + x26) + x188) + x285)), (9, 0), (1, ((0 + x27) + x189)), (9, 0), (1, x276), (9, 0), (1, x277), (9, 0), (1, ((0 + f184) + f273)), (9, 0), (0, (((0 + 1) + 1) + 1)), (1, x285), (9, 0), (1, x286), (9, 0)]) zr_206_97 (Nat.le_of_ble_eq_true rfl) rfl ?_
                              refine zw_6 zr_206_98 rfl ?_
                              refine zw_6 zr_206_100 rfl ?_
                              refine zw_27 zr_206_102 (by omega) ?_
                              refine zw_14 (L' := [(2, 69), (0, a0), (0, a1), (1, (((0 + x26) + x188) + x285)), (9, 0), (1, (((0 + x27) + x189) + x286)), (9, 0), (1, x276), (9, 0), (1, x277), (9, 0), (1, ((0 + f184) + f273)), (9, 0), (0, (((0 + 1) + 1) + 1)), (1, x285), (9, 0), (1, x286), (9, 0)]) zr_206_103 (Nat.le_of_ble_eq_true rfl) rfl ?_
                              refine zw_6 zr_206_105 rfl ?_
                              refine zw_6 zr_206_107 rfl ?_
                              refine zw_29h zr_206_109 ?_
                              intro x300 hx300a hx300b
                              refine zw_7 zr_206_110 rfl ?_
                              refine zw_46r (s := 70) zr_206_111 rfl rfl rfl rfl ?_
                              refine zw_push zr_206_114 ?_
                              refine zw_4 zr_206_117 rfl ?_
                              refine zw_16 zr_206_119 (by omega) ?_
                              obtain ⟨f301, ef301⟩ : ∃ v, m0 70 821 = v := ⟨_, rfl⟩
                              have bf301 : 1 ≤ m0 70 821 ∧ m0 70 821 ≤ 9 := ib_70_weight hI0 (by omega)
                              rw [ef301] at bf301
                              refine zw_48k (c := 70) (len := 826) zr_206_120 rfl rfl (by omega) (by omega) (show ((818 + (((0 + 1) + 1) + 1)) : Int).toNat = 821 by omega) ef301 ?_
                              refine zw_36 zr_206_121 ?_
                              refine zw_6 zr_206_122 rfl ?_
                              refine zw_29h zr_206_124 ?_
                              intro x302 hx302a hx302b
                              refine zw_6 zr_206_125 rfl ?_
                              refine zw_29h zr_206_127 ?_
                              intro x303 hx303a hx303b
                              refine zw_27h zr_206_128 ?_
                              intro x304 hx304a hx304b
                              refine zw_14 (L' := [(2, 69), (0, a0), (0, a1), (1, (((0 + x26) + x188) + x285)), (9, 0), (1, (((0 + x27) + x189) + x286)), (9, 0), (1, x304), (9, 0), (1, x277), (9, 0), (1, ((0 + f184) + f273)), (9, 0), (0, (((0 + 1) + 1) + 1)), (1, x285), (9, 0), (1, x286), (9, 0)]) zr_206_129 (Nat.le_of_ble_eq_true rfl) rfl ?_
                              refine zw_6 zr_206_131 rfl ?_
                              refine zw_6 zr_206_133 rfl ?_
                              refine zw_29p (A := 9801) (B := 99) zr_206_135 (by omega) (by omega) (by omega) (by omega) (by decide) ?_
                              intro x305 hx305a hx305b
                              refine zw_14 (L' := [(2, 69), (0, a0), (0, a1), (1, (((0 + x26) + x188) + x285)), (9, 0), (1, (((0 + x27) + x189) + x286)), (9, 0), (1, x304), (9, 0), (1, x305), (9, 0), (1, ((0 + f184) + f273)), (9, 0), (0, (((0 + 1) + 1) + 1)), (1, x285), (9, 0), (1, x286), (9, 0)]) zr_206_136 (Nat.le_of_ble_eq_true rfl) rfl ?_
                              refine zw_6 zr_206_138 rfl ?_
                              refine zw_7 zr_206_140 rfl ?_
                              refine zw_46r (s := 70) zr_206_141 rfl rfl rfl rfl ?_
                              refine zw_push zr_206_144 ?_
                              refine zw_4 zr_206_147 rfl ?_
                              refine zw_16 zr_206_149 (by omega) ?_
                              refine zw_48k (c := 70) (len := 826) zr_206_150 rfl rfl (by omega) (by omega) (show ((818 + (((0 + 1) + 1) + 1)) : Int).toNat = 821 by omega) ef301 ?_
                              refine zw_36 zr_206_151 ?_
                              refine zw_27 zr_206_152 (by omega) ?_
                              refine zw_14 (L' := [(2, 69), (0, a0), (0, a1), (1, (((0 + x26) + x188) + x285)), (9, 0), (1, (((0 + x27) + x189) + x286)), (9, 0), (1, x304), (9, 0), (1, x305), (9, 0), (1, (((0 + f184) + f273) + f301)), (9, 0), (0, (((0 + 1) + 1) + 1)), (1, x285), (9, 0), (1, x286), (9, 0)]) zr_206_153 (Nat.le_of_ble_eq_true rfl) rfl ?_
                              refine zw_15 (c := 1) (L' := [(2, 69), (0, a0), (0, a1), (1, (((0 + x26) + x188) + x285)), (9, 0), (1, (((0 + x27) + x189) + x286)), (9, 0), (1, x304), (9, 0), (1, x305), (9, 0), (1, (((0 + f184) + f273) + f301)), (9, 0), (0, ((((0 + 1) + 1) + 1) + 1)), (1, x285), (9, 0), (1, x286), (9, 0)]) zr_206_155 rfl (by decide) (by omega) rfl ?_
                              refine zw_42 zr_206_158 ?_
                              refine zw_4 zr_206_38 rfl ?_
                              refine zw_push zr_206_40 ?_
                              refine zw_41_3 zr_206_41 ?_ ?_
                              · intro h306
                                refine zw_6 zr_206_161 rfl ?_
                                refine zw_push zr_206_163 ?_
                                refine zw_39_4 zr_206_164 zr_206_165 ?_ ?_
                                · intro h307
                                  refine zw_3 zr_206_171 rfl ?_
                                  refine zw_40_4 zr_206_172 ?_ ?_
                                  · intro h308
                                    refine zw_7 zr_206_185 rfl ?_
                                    refine zw_6 zr_206_186 rfl ?_
                                    refine zw_6 zr_206_188 rfl ?_
                                    refine zw_6 zr_206_190 rfl ?_
                                    refine zw_29p (A := 970299) (B := 27) zr_206_192 (by omega) (by omega) (by omega) (by omega) (by decide) ?_
                                    intro x309 hx309a hx309b
                                    refine zw_C zr_206_193 (Or.inl rfl) zm_173 rfl rfl ⟨Nat.le_of_ble_eq_true rfl, Nat.le_of_ble_eq_true rfl, Nat.le_of_ble_eq_true rfl, rfl, by decide⟩ (by omega) (th_173 (d := d - 1) (by omega) hI0 (a0 := x304) (a1 := x309)      (by omega) (by omega) ) ?_
                                    rintro _ m310 ⟨rfl, hIm310, gm310⟩
                                    have hFm310 : zFr W_206 m0 m310 := hF0.trans gm310 rfl
                                    have km310_70_822 : m310 70 822 = g0 := (gm310 70 822 rfl).trans hg0
                                    have km310_70_818 : m310 70 818 = f184 := (gm310 70 818 rfl).trans ef184
                                    have km310_70_819 : m310 70 819 = f273 := (gm310 70 819 rfl).trans ef273
                                    have km310_70_821 : m310 70 821 = f301 := (gm310 70 821 rfl).trans ef301
                                    have fm310_70 : m310 70 = F70 := (funext fun k => gm310 70 k rfl).trans hG70
                                    show zW E (d) 206 196 [(2, 69), (0, a0), (0, a1), (1, (((0 + x26) + x188) + x285)), (9, 0), (1, (((0 + x27) + x189) + x286)), (9, 0), (1, x304), (9, 0), (1, x305), (9, 0), (1, (((0 + f184) + f273) + f301)), (9, 0), (0, ((((0 + 1) + 1) + 1) + 1)), (1, x285), (9, 0), (1, x286), (9, 0)] [] m310 Q
                                    refine zw_push zr_206_196 ?_
                                    refine zw_R zr_206_197 (by decide) zm_206 (v := (0, 1)) rfl ?_
                                    rw [← hQ]; exact ⟨_, rfl, by omega, by omega, hIm310, hFm310, by omega⟩
                                  · intro h312
                                    refine zw_7 zr_206_175 rfl ?_
                                    refine zw_5 zr_206_176 rfl ?_
                                    refine zw_6 zr_206_177 rfl ?_
                                    refine zw_C zr_206_179 (Or.inl rfl) zm_173 rfl rfl ⟨Nat.le_of_ble_eq_true rfl, Nat.le_of_ble_eq_true rfl, Nat.le_of_ble_eq_true rfl, rfl, by decide⟩ (by omega) (th_173 (d := d - 1) (by omega) hI0 (a0 := (((0 + x26) + x188) + x285)) (a1 := (((0 + x27) + x189) + x286))      (by omega) (by omega) ) ?_
                                    rintro _ m313 ⟨rfl, hIm313, gm313⟩
                                    have hFm313 : zFr W_206 m0 m313 := hF0.trans gm313 rfl
                                    have km313_70_822 : m313 70 822 = g0 := (gm313 70 822 rfl).trans hg0
                                    have km313_70_818 : m313 70 818 = f184 := (gm313 70 818 rfl).trans ef184
                                    have km313_70_819 : m313 70 819 = f273 := (gm313 70 819 rfl).trans ef273
                                    have km313_70_821 : m313 70 821 = f301 := (gm313 70 821 rfl).trans ef301
                                    have fm313_70 : m313 70 = F70 := (funext fun k => gm313 70 k rfl).trans hG70
                                    show zW E (d) 206 182 [(2, 69), (0, a0), (0, a1), (1, (((0 + x26) + x188) + x285)), (9, 0), (1, (((0 + x27) + x189) + x286)), (9, 0), (1, x304), (9, 0), (1, x305), (9, 0), (1, (((0 + f184) + f273) + f301)), (9, 0), (0, ((((0 + 1) + 1) + 1) + 1)), (1, x285), (9, 0), (1, x286), (9, 0)] [] m313 Q
                                    refine zw_42 zr_206_182 ?_
                                    refine zw_push zr_206_196 ?_
                                    refine zw_R zr_206_197 (by decide) zm_206 (v := (0, 1)) rfl ?_
                                    rw [← hQ]; exact ⟨_, rfl, by omega, by omega, hIm313, hFm313, by omega⟩
                                · intro h315; omega
                              · intro h316; omega
                        · intro h317
                          refine zw_5 zr_206_93 rfl ?_
                          refine zw_6 zr_206_94 rfl ?_
                          refine zw_27 zr_206_96 (by omega) ?_
                          refine zw_13 (L' := [(2, 69), (0, a0), (0, a1), (1, (((0 + x26) + x188) + x280)), (9, 0), (1, ((0 + x27) + x189)), (9, 0), (1, x276), (9, 0), (1, x277), (9, 0), (1, ((0 + f184) + f273)), (9, 0), (0, ((0 + 1) + 1)), (1, x280), (9, 0), (1, x281), (9, 0)]) zr_206_97 (Nat.le_of_ble_eq_true rfl) rfl ?_
                          refine zw_6 zr_206_98 rfl ?_
                          refine zw_6 zr_206_100 rfl ?_
                          refine zw_27 zr_206_102 (by omega) ?_
                          refine zw_14 (L' := [(2, 69), (0, a0), (0, a1), (1, (((0 + x26) + x188) + x280)), (9, 0), (1, (((0 + x27) + x189) + x281)), (9, 0), (1, x276), (9, 0), (1, x277), (9, 0), (1, ((0 + f184) + f273)), (9, 0), (0, ((0 + 1) + 1)), (1, x280), (9, 0), (1, x281), (9, 0)]) zr_206_103 (Nat.le_of_ble_eq_true rfl) rfl ?_
                          refine zw_6 zr_206_105 rfl ?_
                          refine zw_6 zr_206_107 rfl ?_
                          refine zw_29h zr_206_109 ?_
                          intro x318 hx318a hx318b
                          refine zw_7 zr_206_110 rfl ?_
                          refine zw_46r (s := 70) zr_206_111 rfl rfl rfl rfl ?_
                          refine zw_push zr_206_114 ?_
                          refine zw_4 zr_206_117 rfl ?_
                          refine zw_16 zr_206_119 (by omega) ?_
                          obtain ⟨f319, ef319⟩ : ∃ v, m0 70 820 = v := ⟨_, rfl⟩
                          have bf319 : 1 ≤ m0 70 820 ∧ m0 70 820 ≤ 9 := ib_70_weight hI0 (by omega)
                          rw [ef319] at bf319
                          refine zw_48k (c := 70) (len := 826) zr_206_120 rfl rfl (by omega) (by omega) (show ((818 + ((0 + 1) + 1)) : Int).toNat = 820 by omega) ef319 ?_
                          refine zw_36 zr_206_121 ?_
                          refine zw_6 zr_206_122 rfl ?_
                          refine zw_29h zr_206_124 ?_
                          intro x320 hx320a hx320b
                          refine zw_6 zr_206_125 rfl ?_
                          refine zw_29h zr_206_127 ?_
                          intro x321 hx321a hx321b
                          refine zw_27h zr_206_128 ?_
                          intro x322 hx322a hx322b
                          refine zw_14 (L' := [(2, 69), (0, a0), (0, a1), (1, (((0 + x26) + x188) + x280)), (9, 0), (1, (((0 + x27) + x189) + x281)), (9, 0), (1, x322), (9, 0), (1, x277), (9, 0), (1, ((0 + f184) + f273)), (9, 0), (0, ((0 + 1) + 1)), (1, x280), (9, 0), (1, x281), (9, 0)]) zr_206_129 (Nat.le_of_ble_eq_true rfl) rfl ?_
                          refine zw_6 zr_206_131 rfl ?_
                          refine zw_6 zr_206_133 rfl ?_
                          refine zw_29p (A := 9801) (B := 99) zr_206_135 (by omega) (by omega) (by omega) (by omega) (by decide) ?_
                          intro x323 hx323a hx323b
                          refine zw_14 (L' := [(2, 69), (0, a0), (0, a1), (1, (((0 + x26) + x188) + x280)), (9, 0), (1, (((0 + x27) + x189) + x281)), (9, 0), (1, x322), (9, 0), (1, x323), (9, 0), (1, ((0 + f184) + f273)), (9, 0), (0, ((0 + 1) + 1)), (1, x280), (9, 0), (1, x281), (9, 0)]) zr_206_136 (Nat.le_of_ble_eq_true rfl) rfl ?_
                          refine zw_6 zr_206_138 rfl ?_
                          refine zw_7 zr_206_140 rfl ?_
                          refine zw_46r (s := 70) zr_206_141 rfl rfl rfl rfl ?_
                          refine zw_push zr_206_144 ?_
                          refine zw_4 zr_206_147 rfl ?_
                          refine zw_16 zr_206_149 (by omega) ?_
                          refine zw_48k (c := 70) (len := 826) zr_206_150 rfl rfl (by omega) (by omega) (show ((818 + ((0 + 1) + 1)) : Int).toNat = 820 by omega) ef319 ?_
                          refine zw_36 zr_206_151 ?_
                          refine zw_27 zr_206_152 (by omega) ?_
                          refine zw_14 (L' := [(2, 69), (0, a0), (0, a1), (1, (((0 + x26) + x188) + x280)), (9, 0), (1, (((0 + x27) + x189) + x281)), (9, 0), (1, x322), (9, 0), (1, x323), (9, 0), (1, (((0 + f184) + f273) + f319)), (9, 0), (0, ((0 + 1) + 1)), (1, x280), (9, 0), (1, x281), (9, 0)]) zr_206_153 (Nat.le_of_ble_eq_true rfl) rfl ?_
                          refine zw_15 (c := 1) (L' := [(2, 69), (0, a0), (0, a1), (1, (((0 + x26) + x188) + x280)), (9, 0), (1, (((0 + x27) + x189) + x281)), (9, 0), (1, x322), (9, 0), (1, x323), (9, 0), (1, (((0 + f184) + f273) + f319)), (9, 0), (0, (((0 + 1) + 1) + 1)), (1, x280), (9, 0), (1, x281), (9, 0)]) zr_206_155 rfl (by decide) (by omega) rfl ?_
                          refine zw_42 zr_206_158 ?_
                          refine zw_4 zr_206_38 rfl ?_
                          refine zw_push zr_206_40 ?_
                          refine zw_41_3 zr_206_41 ?_ ?_
                          · intro h324; omega
                          · intro h325
                            refine zw_7 zr_206_44 rfl ?_
                            refine zw_46r (s := 70) zr_206_45 rfl rfl rfl rfl ?_
                            refine zw_push zr_206_48 ?_
                            refine zw_push zr_206_50 ?_
                            refine zw_3 zr_206_52 rfl ?_
                            refine zw_18 zr_206_53 (by omega) ?_
                            refine zw_16 zr_206_54 (by omega) ?_
                            refine zw_push zr_206_55 ?_
                            refine zw_4 zr_206_56 rfl ?_
                            refine zw_18 zr_206_58 (by omega) ?_
                            refine zw_16 zr_206_59 (by omega) ?_
                            refine zw_48 (c := 70) (len := 826) zr_206_60 rfl rfl (by omega) (by omega) ?_
                            intro x326 ex326
                            have bx326 := ib_70_moves hI0 (k := (((10 + (8 * a0)) + (2 * (((0 + 1) + 1) + 1)))).toNat) (by omega)
                            rw [← ex326] at bx326
                            have qx326 : x326 = F70 (((10 + (8 * a0)) + (2 * (((0 + 1) + 1) + 1)))).toNat := by rw [← hG70]; exact ex326
                            clear ex326
                            refine zw_36 zr_206_61 ?_
                            refine zw_14 (L' := [(2, 69), (0, a0), (0, a1), (1, (((0 + x26) + x188) + x280)), (9, 0), (1, (((0 + x27) + x189) + x281)), (9, 0), (1, x322), (9, 0), (1, x323), (9, 0), (1, (((0 + f184) + f273) + f319)), (9, 0), (0, (((0 + 1) + 1) + 1)), (1, x326), (9, 0), (1, x281), (9, 0)]) zr_206_62 (Nat.le_of_ble_eq_true rfl) rfl ?_
                            refine zw_7 zr_206_64 rfl ?_
                            refine zw_46r (s := 70) zr_206_65 rfl rfl rfl rfl ?_
                            refine zw_push zr_206_68 ?_
                            refine zw_push zr_206_70 ?_
                            refine zw_3 zr_206_72 rfl ?_
                            refine zw_18 zr_206_73 (by omega) ?_
                            refine zw_16 zr_206_74 (by omega) ?_
                            refine zw_push zr_206_75 ?_
                            refine zw_4 zr_206_76 rfl ?_
                            refine zw_18 zr_206_78 (by omega) ?_
                            refine zw_16 zr_206_79 (by omega) ?_
                            refine zw_push zr_206_80 ?_
                            refine zw_16 zr_206_81 (by omega) ?_
                            refine zw_48 (c := 70) (len := 826) zr_206_82 rfl rfl (by omega) (by omega) ?_
                            intro x327 ex327
                            have bx327 := ib_70_moves hI0 (k := ((((10 + (8 * a0)) + (2 * (((0 + 1) + 1) + 1))) + 1)).toNat) (by omega)
                            rw [← ex327] at bx327
                            have qx327 : x327 = F70 ((((10 + (8 * a0)) + (2 * (((0 + 1) + 1) + 1))) + 1)).toNat := by rw [← hG70]; exact ex327
                            clear ex327
                            refine zw_36 zr_206_83 ?_
                            refine zw_14 (L' := [(2, 69), (0, a0), (0, a1), (1, (((0 + x26) + x188) + x280)), (9, 0), (1, (((0 + x27) + x189) + x281)), (9, 0), (1, x322), (9, 0), (1, x323), (9, 0), (1, (((0 + f184) + f273) + f319)), (9, 0), (0, (((0 + 1) + 1) + 1)), (1, x326), (9, 0), (1, x327), (9, 0)]) zr_206_84 (Nat.le_of_ble_eq_true rfl) rfl ?_
                            refine zw_6 zr_206_86 rfl ?_
                            refine zw_push zr_206_88 ?_
                            refine zw_39_5 zr_206_89 zr_206_90 ?_ ?_
                            · intro h328
                              refine zw_15 (c := 1) (L' := [(2, 69), (0, a0), (0, a1), (1, (((0 + x26) + x188) + x280)), (9, 0), (1, (((0 + x27) + x189) + x281)), (9, 0), (1, x322), (9, 0), (1, x323), (9, 0), (1, (((0 + f184) + f273) + f319)), (9, 0), (0, ((((0 + 1) + 1) + 1) + 1)), (1, x326), (9, 0), (1, x327), (9, 0)]) zr_206_155 rfl (by decide) (by omega) rfl ?_
                              refine zw_42 zr_206_158 ?_
                              refine zw_4 zr_206_38 rfl ?_
                              refine zw_push zr_206_40 ?_
                              refine zw_41_3 zr_206_41 ?_ ?_
                              · intro h329
                                refine zw_6 zr_206_161 rfl ?_
                                refine zw_push zr_206_163 ?_
                                refine zw_39_4 zr_206_164 zr_206_165 ?_ ?_
                                · intro h330
                                  refine zw_3 zr_206_171 rfl ?_
                                  refine zw_40_4 zr_206_172 ?_ ?_
                                  · intro h331
                                    refine zw_7 zr_206_185 rfl ?_
                                    refine zw_6 zr_206_186 rfl ?_
                                    refine zw_6 zr_206_188 rfl ?_
                                    refine zw_6 zr_206_190 rfl ?_
                                    refine zw_29p (A := 970299) (B := 27) zr_206_192 (by omega) (by omega) (by omega) (by omega) (by decide) ?_
                                    intro x332 hx332a hx332b
                                    refine zw_C zr_206_193 (Or.inl rfl) zm_173 rfl rfl ⟨Nat.le_of_ble_eq_true rfl, Nat.le_of_ble_eq_true rfl, Nat.le_of_ble_eq_true rfl, rfl, by decide⟩ (by omega) (th_173 (d := d - 1) (by omega) hI0 (a0 := x322) (a1 := x332)      (by omega) (by omega) ) ?_
                                    rintro _ m333 ⟨rfl, hIm333, gm333⟩
                                    have hFm333 : zFr W_206 m0 m333 := hF0.trans gm333 rfl
                                    have km333_70_822 : m333 70 822 = g0 := (gm333 70 822 rfl).trans hg0
                                    have km333_70_818 : m333 70 818 = f184 := (gm333 70 818 rfl).trans ef184
                                    have km333_70_819 : m333 70 819 = f273 := (gm333 70 819 rfl).trans ef273
                                    have km333_70_820 : m333 70 820 = f319 := (gm333 70 820 rfl).trans ef319
                                    have fm333_70 : m333 70 = F70 := (funext fun k => gm333 70 k rfl).trans hG70
                                    show zW E (d) 206 196 [(2, 69), (0, a0), (0, a1), (1, (((0 + x26) + x188) + x280)), (9, 0), (1, (((0 + x27) + x189) + x281)), (9, 0), (1, x322), (9, 0), (1, x323), (9, 0), (1, (((0 + f184) + f273) + f319)), (9, 0), (0, ((((0 + 1) + 1) + 1) + 1)), (1, x326), (9, 0), (1, x327), (9, 0)] [] m333 Q
                                    refine zw_push zr_206_196 ?_
                                    refine zw_R zr_206_197 (by decide) zm_206 (v := (0, 1)) rfl ?_
                                    rw [← hQ]; exact ⟨_, rfl, by omega, by omega, hIm333, hFm333, by omega⟩
                                  · intro h335
                                    refine zw_7 zr_206_175 rfl ?_
                                    refine zw_5 zr_206_176 rfl ?_
                                    refine zw_6 zr_206_177 rfl ?_
                                    refine zw_C zr_206_179 (Or.inl rfl) zm_173 rfl rfl ⟨Nat.le_of_ble_eq_true rfl, Nat.le_of_ble_eq_true rfl, Nat.le_of_ble_eq_true rfl, rfl, by decide⟩ (by omega) (th_173 (d := d - 1) (by omega) hI0 (a0 := (((0 + x26) + x188) + x280)) (a1 := (((0 + x27) + x189) + x281))      (by omega) (by omega) ) ?_
                                    rintro _ m336 ⟨rfl, hIm336, gm336⟩
                                    have hFm336 : zFr W_206 m0 m336 := hF0.trans gm336 rfl
                                    have km336_70_822 : m336 70 822 = g0 := (gm336 70 822 rfl).trans hg0
                                    have km336_70_818 : m336 70 818 = f184 := (gm336 70 818 rfl).trans ef184
                                    have km336_70_819 : m336 70 819 = f273 := (gm336 70 819 rfl).trans ef273
                                    have km336_70_820 : m336 70 820 = f319 := (gm336 70 820 rfl).trans ef319
                                    have fm336_70 : m336 70 = F70 := (funext fun k => gm336 70 k rfl).trans hG70
                                    show zW E (d) 206 182 [(2, 69), (0, a0), (0, a1), (1, (((0 + x26) + x188) + x280)), (9, 0), (1, (((0 + x27) + x189) + x281)), (9, 0), (1, x322), (9, 0), (1, x323), (9, 0), (1, (((0 + f184) + f273) + f319)), (9, 0), (0, ((((0 + 1) + 1) + 1) + 1)), (1, x326), (9, 0), (1, x327), (9, 0)] [] m336 Q
                                    refine zw_42 zr_206_182 ?_
                                    refine zw_push zr_206_196 ?_
                                    refine zw_R zr_206_197 (by decide) zm_206 (v := (0, 1)) rfl ?_
                                    rw [← hQ]; exact ⟨_, rfl, by omega, by omega, hIm336, hFm336, by omega⟩
                                · intro h338; omega
                              · intro h339; omega
                            · intro h340
                              refine zw_5 zr_206_93 rfl ?_
                              refine zw_6 zr_206_94 rfl ?_
                              refine zw_27 zr_206_96 (by omega) ?_
                              refine zw_13 (L' := [(2, 69), (0, a0), (0, a1), (1, ((((0 + x26) + x188) + x280) + x326)), (9, 0), (1, (((0 + x27) + x189) + x281)), (9, 0), (1, x322), (9, 0), (1, x323), (9, 0), (1, (((0 + f184) + f273) + f319)), (9, 0), (0, (((0 + 1) + 1) + 1)), (1, x326), (9, 0), (1, x327), (9, 0)]) zr_206_97 (Nat.le_of_ble_eq_true rfl) rfl ?_
                              refine zw_6 zr_206_98 rfl ?_
                              refine zw_6 zr_206_100 rfl ?_
                              refine zw_27 zr_206_102 (by omega) ?_
                              refine zw_14 (L' := [(2, 69), (0, a0), (0, a1), (1, ((((0 + x26) + x188) + x280) + x326)), (9, 0), (1, ((((0 + x27) + x189) + x281) + x327)), (9, 0), (1, x322), (9, 0), (1, x323), (9, 0), (1, (((0 + f184) + f273) + f319)), (9, 0), (0, (((0 + 1) + 1) + 1)), (1, x326), (9, 0), (1, x327), (9, 0)]) zr_206_103 (Nat.le_of_ble_eq_true rfl) rfl ?_
                              refine zw_6 zr_206_105 rfl ?_
                              refine zw_6 zr_206_107 rfl ?_
                              refine zw_29h zr_206_109 ?_
                              intro x341 hx341a hx341b
                              refine zw_7 zr_206_110 rfl ?_
                              refine zw_46r (s := 70) zr_206_111 rfl rfl rfl rfl ?_
                              refine zw_push zr_206_114 ?_
                              refine zw_4 zr_206_117 rfl ?_
                              refine zw_16 zr_206_119 (by omega) ?_
                              obtain ⟨f342, ef342⟩ : ∃ v, m0 70 821 = v := ⟨_, rfl⟩
                              have bf342 : 1 ≤ m0 70 821 ∧ m0 70 821 ≤ 9 := ib_70_weight hI0 (by omega)
                              rw [ef342] at bf342
                              refine zw_48k (c := 70) (len := 826) zr_206_120 rfl rfl (by omega) (by omega) (show ((818 + (((0 + 1) + 1) + 1)) : Int).toNat = 821 by omega) ef342 ?_
                              refine zw_36 zr_206_121 ?_
                              refine zw_6 zr_206_122 rfl ?_
                              refine zw_29h zr_206_124 ?_
                              intro x343 hx343a hx343b
                              refine zw_6 zr_206_125 rfl ?_
                              refine zw_29h zr_206_127 ?_
                              intro x344 hx344a hx344b
                              refine zw_27h zr_206_128 ?_
                              intro x345 hx345a hx345b
                              refine zw_14 (L' := [(2, 69), (0, a0), (0, a1), (1, ((((0 + x26) + x188) + x280) + x326)), (9, 0), (1, ((((0 + x27) + x189) + x281) + x327)), (9, 0), (1, x345), (9, 0), (1, x323), (9, 0), (1, (((0 + f184) + f273) + f319)), (9, 0), (0, (((0 + 1) + 1) + 1)), (1, x326), (9, 0), (1, x327), (9, 0)]) zr_206_129 (Nat.le_of_ble_eq_true rfl) rfl ?_
                              refine zw_6 zr_206_131 rfl ?_
                              refine zw_6 zr_206_133 rfl ?_
                              refine zw_29p (A := 970299) (B := 99) zr_206_135 (by omega) (by omega) (by omega) (by omega) (by decide) ?_
                              intro x346 hx346a hx346b
                              refine zw_14 (L' := [(2, 69), (0, a0), (0, a1), (1, ((((0 + x26) + x188) + x280) + x326)), (9, 0), (1, ((((0 + x27) + x189) + x281) + x327)), (9, 0), (1, x345), (9, 0), (1, x346), (9, 0), (1, (((0 + f184) + f273) + f319)), (9, 0), (0, (((0 + 1) + 1) + 1)), (1, x326), (9, 0), (1, x327), (9, 0)]) zr_206_136 (Nat.le_of_ble_eq_true rfl) rfl ?_
                              refine zw_6 zr_206_138 rfl ?_
                              refine zw_7 zr_206_140 rfl ?_
                              refine zw_46r (s := 70) zr_206_141 rfl rfl rfl rfl ?_
                              refine zw_push zr_206_144 ?_
                              refine zw_4 zr_206_147 rfl ?_
                              refine zw_16 zr_206_149 (by omega) ?_
                              refine zw_48k (c := 70) (len := 826) zr_206_150 rfl rfl (by omega) (by omega) (show ((818 + (((0 + 1) + 1) + 1)) : Int).toNat = 821 by omega) ef342 ?_
                              refine zw_36 zr_206_151 ?_
                              refine zw_27 zr_206_152 (by omega) ?_
                              refine zw_14 (L' := [(2, 69), (0, a0), (0, a1), (1, ((((0 + x26) + x188) + x280) + x326)), (9, 0), (1, ((((0 + x27) + x189) + x281) + x327)), (9, 0), (1, x345), (9, 0), (1, x346), (9, 0), (1, ((((0 + f184) + f273) + f319) + f342)), (9, 0), (0, (((0 + 1) + 1) + 1)), (1, x326), (9, 0), (1, x327), (9, 0)]) zr_206_153 (Nat.le_of_ble_eq_true rfl) rfl ?_
                              refine zw_15 (c := 1) (L' := [(2, 69), (0, a0), (0, a1), (1, ((((0 + x26) + x188) + x280) + x326)), (9, 0), (1, ((((0 + x27) + x189) + x281) + x327)), (9, 0), (1, x345), (9, 0), (1, x346), (9, 0), (1, ((((0 + f184) + f273) + f319) + f342)), (9, 0), (0, ((((0 + 1) + 1) + 1) + 1)), (1, x326), (9, 0), (1, x327), (9, 0)]) zr_206_155 rfl (by decide) (by omega) rfl ?_
                              refine zw_42 zr_206_158 ?_
                              refine zw_4 zr_206_38 rfl ?_
                              refine zw_push zr_206_40 ?_
                              refine zw_41_3 zr_206_41 ?_ ?_
                              · intro h347
                                refine zw_6 zr_206_161 rfl ?_
                                refine zw_push zr_206_163 ?_
                                refine zw_39_4 zr_206_164 zr_206_165 ?_ ?_
                                · intro h348
                                  refine zw_3 zr_206_171 rfl ?_
                                  refine zw_40_4 zr_206_172 ?_ ?_
                                  · intro h349
                                    refine zw_7 zr_206_185 rfl ?_
                                    refine zw_6 zr_206_186 rfl ?_
                                    refine zw_6 zr_206_188 rfl ?_
                                    refine zw_6 zr_206_190 rfl ?_
                                    refine zw_29p (A := 96059601) (B := 36) zr_206_192 (by omega) (by omega) (by omega) (by omega) (by decide) ?_
                                    intro x350 hx350a hx350b
                                    refine zw_C zr_206_193 (Or.inl rfl) zm_173 rfl rfl ⟨Nat.le_of_ble_eq_true rfl, Nat.le_of_ble_eq_true rfl, Nat.le_of_ble_eq_true rfl, rfl, by decide⟩ (by omega) (th_173 (d := d - 1) (by omega) hI0 (a0 := x345) (a1 := x350)      (by omega) (by omega) ) ?_
                                    rintro _ m351 ⟨rfl, hIm351, gm351⟩
                                    have hFm351 : zFr W_206 m0 m351 := hF0.trans gm351 rfl
                                    have km351_70_822 : m351 70 822 = g0 := (gm351 70 822 rfl).trans hg0
                                    have km351_70_818 : m351 70 818 = f184 := (gm351 70 818 rfl).trans ef184
                                    have km351_70_819 : m351 70 819 = f273 := (gm351 70 819 rfl).trans ef273
                                    have km351_70_820 : m351 70 820 = f319 := (gm351 70 820 rfl).trans ef319
                                    have km351_70_821 : m351 70 821 = f342 := (gm351 70 821 rfl).trans ef342
                                    have fm351_70 : m351 70 = F70 := (funext fun k => gm351 70 k rfl).trans hG70
                                    show zW E (d) 206 196 [(2, 69), (0, a0), (0, a1), (1, ((((0 + x26) + x188) + x280) + x326)), (9, 0), (1, ((((0 + x27) + x189) + x281) + x327)), (9, 0), (1, x345), (9, 0), (1, x346), (9, 0), (1, ((((0 + f184) + f273) + f319) + f342)), (9, 0), (0, ((((0 + 1) + 1) + 1) + 1)), (1, x326), (9, 0), (1, x327), (9, 0)] [] m351 Q
                                    refine zw_push zr_206_196 ?_
                                    refine zw_R zr_206_197 (by decide) zm_206 (v := (0, 1)) rfl ?_
                                    rw [← hQ]; exact ⟨_, rfl, by omega, by omega, hIm351, hFm351, by omega⟩
                                  · intro h353
                                    refine zw_7 zr_206_175 rfl ?_
                                    refine zw_5 zr_206_176 rfl ?_
                                    refine zw_6 zr_206_177 rfl ?_
                                    refine zw_C zr_206_179 (Or.inl rfl) zm_173 rfl rfl ⟨Nat.le_of_ble_eq_true rfl, Nat.le_of_ble_eq_true rfl, Nat.le_of_ble_eq_true rfl, rfl, by decide⟩ (by omega) (th_173 (d := d - 1) (by omega) hI0 (a0 := ((((0 + x26) + x188) + x280) + x326)) (a1 := ((((0 + x27) + x189) + x281) + x327))      (by omega) (by omega) ) ?_
                                    rintro _ m354 ⟨rfl, hIm354, gm354⟩
                                    have hFm354 : zFr W_206 m0 m354 := hF0.trans gm354 rfl
                                    have km354_70_822 : m354 70 822 = g0 := (gm354 70 822 rfl).trans hg0
                                    have km354_70_818 : m354 70 818 = f184 := (gm354 70 818 rfl).trans ef184
                                    have km354_70_819 : m354 70 819 = f273 := (gm354 70 819 rfl).trans ef273
                                    have km354_70_820 : m354 70 820 = f319 := (gm354 70 820 rfl).trans ef319
                                    have km354_70_821 : m354 70 821 = f342 := (gm354 70 821 rfl).trans ef342
                                    have fm354_70 : m354 70 = F70 := (funext fun k => gm354 70 k rfl).trans hG70
                                    show zW E (d) 206 182 [(2, 69), (0, a0), (0, a1), (1, ((((0 + x26) + x188) + x280) + x326)), (9, 0), (1, ((((0 + x27) + x189) + x281) + x327)), (9, 0), (1, x345), (9, 0), (1, x346), (9, 0), (1, ((((0 + f184) + f273) + f319) + f342)), (9, 0), (0, ((((0 + 1) + 1) + 1) + 1)), (1, x326), (9, 0), (1, x327), (9, 0)] [] m354 Q
                                    refine zw_42 zr_206_182 ?_
                                    refine zw_push zr_206_196 ?_
                                    refine zw_R zr_206_197 (by decide) zm_206 (v := (0, 1)) rfl ?_
                                    rw [← hQ]; exact ⟨_, rfl, by omega, by omega, hIm354, hFm354, by omega⟩
                                · intro h356; omega
                              · intro h357; omega
            · intro h358; omega
