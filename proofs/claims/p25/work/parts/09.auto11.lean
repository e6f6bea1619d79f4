abbrev W_206 : List (Nat × Nat) := [(69, 3), (69, 4)]
set_option maxHeartbeats 8000000 in
theorem th_206 {E : zE} {d : Nat} {m0 : zM} {a0 : Int} {a1 : Int} {g0 : Int} {F70 : Nat → Int} (hd : 3 ≤ d) (hI0 : zInv m0) (hg0 : m0 70 822 = g0) (hG70 : m0 70 = F70) (ha0 : (-2147483648) ≤ a0 ∧ a0 ≤ 2147483647) (ha1 : (-2147483648) ≤ a1 ∧ a1 ≤ 2147483647) : zC E d 206 [(2, 69), (0, a0), (0, a1)] m0 (fun v m' => ∃ r : Int, v = (0, r) ∧ (-3) ≤ r ∧ r ≤ 1 ∧ zInv m' ∧ zFr W_206 m0 m' ∧ ((r = -2 ∧ (a0 < 0 ∨ g0 ≤ a0 ∨ a1 < 0 ∨ 1 < a1)) ∨ (0 ≤ a0 ∧ a0 < g0 ∧ 0 ≤ a1 ∧ a1 ≤ 1 ∧ ((r = -3 ∧ F70 (10 + 8 * a0 + 2 * 0 + 1).toNat + F70 (10 + 8 * a0 + 2 * (0 + 1) + 1).toNat + F70 (10 + 8 * a0 + 2 * ((0 + 1) + 1) + 1).toNat + F70 (10 + 8 * a0 + 2 * (((0 + 1) + 1) + 1) + 1).toNat = 0) ∨ (r = 1 ∧ F70 (10 + 8 * a0 + 2 * 0 + 1).toNat + F70 (10 + 8 * a0 + 2 * (0 + 1) + 1).toNat + F70 (10 + 8 * a0 + 2 * ((0 + 1) + 1) + 1).toNat + F70 (10 + 8 * a0 + 2 * (((0 + 1) + 1) + 1) + 1).toNat ≠ 0))))) := by
  have hF0 : zFr W_206 m0 m0 := zFr.rfl
  have bg0 : 0 ≤ m0 70 822 ∧ m0 70 822 ≤ 10 := ib_70_players hI0 (by omega)
  rw [hg0] at bg0
  generalize hQ : (fun (v : zV) (m' : zM) => ∃ r : Int, v = (0, r) ∧ (-3) ≤ r ∧ r ≤ 1 ∧ zInv m' ∧ zFr W_206 m0 m' ∧ ((r = -2 ∧ (a0 < 0 ∨ g0 ≤ a0 ∨ a1 < 0 ∨ 1 < a1)) ∨ (0 ≤ a0 ∧ a0 < g0 ∧ 0 ≤ a1 ∧ a1 ≤ 1 ∧ ((r = -3 ∧ F70 (10 + 8 * a0 + 2 * 0 + 1).toNat + F70 (10 + 8 * a0 + 2 * (0 + 1) + 1).toNat + F70 (10 + 8 * a0 + 2 * ((0 + 1) + 1) + 1).toNat + F70 (10 + 8 * a0 + 2 * (((0 + 1) + 1) + 1) + 1).toNat = 0) ∨ (r = 1 ∧ F70 (10 + 8 * a0 + 2 * 0 + 1).toNat + F70 (10 + 8 * a0 + 2 * (0 + 1) + 1).toNat + F70 (10 + 8 * a0 + 2 * ((0 + 1) + 1) + 1).toNat + F70 (10 + 8 * a0 + 2 * (((0 + 1) + 1) + 1) + 1).toNat ≠ 0))))) = Q
  show zW E d 206 0 [(2, 69), (0, a0), (0, a1), (9, 0), (9, 0), (9, 0), (9, 0), (9, 0), (9, 0), (9, 0), (9, 0), (9, 0), (9, 0), (9, 0), (9, 0), (9, 0), (9, 0), (9, 0)] [] m0 Q
  refine zw_7 zr_206_0 rfl ?_
  refine zw_3 zr_206_1 rfl ?_
  refine zw_C zr_206_2 (Or.inl rfl) zm_143 rfl rfl ⟨Nat.le_of_ble_eq_true rfl, Nat.le_of_ble_eq_true rfl, Nat.le_of_ble_eq_true rfl, rfl, by decide⟩ (by omega) (P := (fun v m' => zW E (d) 206 5 [(2, 69), (0, a0), (0, a1), (9, 0), (9, 0), (9, 0), (9, 0), (9, 0), (9, 0), (9, 0), (9, 0), (9, 0), (9, 0), (9, 0), (9, 0), (9, 0), (9, 0), (9, 0)] (if v.1 = 9 then [] else v :: []) m' Q)) ?_ (fun _ _ h => h)
  generalize hQ1 : (fun v m' => zW E (d) 206 5 [(2, 69), (0, a0), (0, a1), (9, 0), (9, 0), (9, 0), (9, 0), (9, 0), (9, 0), (9, 0), (9, 0), (9, 0), (9, 0), (9, 0), (9, 0), (9, 0), (9, 0), (9, 0)] (if v.1 = 9 then [] else v :: []) m' Q) = Q1
  show zW E (d - 1) 143 0 [(2, 69), (0, a0)] [] m0 Q1
  refine zw_3 zr_143_0 rfl ?_
  refine zw_36 zr_143_1 ?_
  refine zw_push zr_143_2 ?_
  refine zw_7 zr_143_3 rfl ?_
  refine zw_C zr_143_4 (Or.inl rfl) zm_141 rfl rfl ⟨Nat.le_of_ble_eq_true rfl, Nat.le_of_ble_eq_true rfl, Nat.le_of_ble_eq_true rfl, rfl, by decide⟩ (by omega) (P := (fun v m' => zW E (d - 1) 143 7 [(2, 69), (0, a0)] (if v.1 = 9 then [(1, 0), (1, a0)] else v :: [(1, 0), (1, a0)]) m' Q1)) ?_ (fun _ _ h => h)
  generalize hQ2 : (fun v m' => zW E (d - 1) 143 7 [(2, 69), (0, a0)] (if v.1 = 9 then [(1, 0), (1, a0)] else v :: [(1, 0), (1, a0)]) m' Q1) = Q2
  show zW E (d - 1 - 1) 141 0 [(2, 69)] [] m0 Q2
  refine zw_7 zr_141_0 rfl ?_
  refine zw_46r (s := 70) zr_141_1 rfl rfl rfl rfl ?_
  refine zw_push zr_141_4 ?_
  refine zw_48k (c := 70) (len := 826) zr_141_7 rfl rfl (by omega) (by omega) (show (822 : Int).toNat = 822 by omega) hg0 ?_
  refine zw_R zr_141_8 (by decide) zm_141 (v := (0, g0)) rfl ?_
  rw [← hQ2]
  show zW E (d - 1) 143 7 [(2, 69), (0, a0)] [(0, g0), (1, 0), (1, a0)] m0 Q1
  refine zw_push zr_143_7 ?_
  refine zw_17 zr_143_8 (by omega) ?_
  refine zw_36 zr_143_9 ?_
  refine zw_C zr_143_10 (Or.inr rfl) zm_140 rfl rfl ⟨Nat.le_of_ble_eq_true rfl, Nat.le_of_ble_eq_true rfl, Nat.le_of_ble_eq_true rfl, rfl, by decide⟩ (by omega) (P := (fun v m' => zW E (d - 1) 143 13 [(2, 69), (0, a0)] (if v.1 = 9 then [] else v :: []) m' Q1)) ?_ (fun _ _ h => h)
  generalize hQ2 : (fun v m' => zW E (d - 1) 143 13 [(2, 69), (0, a0)] (if v.1 = 9 then [] else v :: []) m' Q1) = Q2
  show zW E (d - 1 - 1) 140 0 [(1, a0), (9, 0), (1, 0), (9, 0), (1, (g0 - 1)), (9, 0)] [] m0 Q2
  refine zw_5 zr_140_0 rfl ?_
  refine zw_5 zr_140_1 rfl ?_
  refine zw_39_0 zr_140_2 zr_140_3 ?_ ?_
  · intro h1
    refine zw_push zr_140_17 ?_
    refine zw_R zr_140_18 (by decide) zm_140 (v := (0, 0)) (zRetB (by omega)) ?_
    rw [← hQ2]
    show zW E (d - 1) 143 13 [(2, 69), (0, a0)] [(0, 0)] m0 Q1
    refine zw_R zr_143_13 (by decide) zm_143 (v := (0, 0)) (zRetB (by omega)) ?_
    rw [← hQ1]
    show zW E (d) 206 5 [(2, 69), (0, a0), (0, a1), (9, 0), (9, 0), (9, 0), (9, 0), (9, 0), (9, 0), (9, 0), (9, 0), (9, 0), (9, 0), (9, 0), (9, 0), (9, 0), (9, 0), (9, 0)] [(0, 0)] m0 Q
    refine zw_40_1 zr_206_5 ?_ ?_
    · intro h2
      refine zw_push zr_206_18 ?_
      refine zw_R zr_206_20 (by decide) zm_206 (v := (0, (-2))) rfl ?_
      rw [← hQ]; exact ⟨_, rfl, by omega, by omega, hI0, hF0, by omega⟩
    · intro h4; omega
  · intro h5
    refine zw_5 zr_140_6 rfl ?_
    refine zw_6 zr_140_7 rfl ?_
    refine zw_39_2 zr_140_9 zr_140_10 ?_ ?_
    · intro h6
      refine zw_push zr_140_17 ?_
      refine zw_R zr_140_18 (by decide) zm_140 (v := (0, 0)) (zRetB (by omega)) ?_
      rw [← hQ2]
      show zW E (d - 1) 143 13 [(2, 69), (0, a0)] [(0, 0)] m0 Q1
      refine zw_R zr_143_13 (by decide) zm_143 (v := (0, 0)) (zRetB (by omega)) ?_
      rw [← hQ1]
      show zW E (d) 206 5 [(2, 69), (0, a0), (0, a1), (9, 0), (9, 0), (9, 0), (9, 0), (9, 0), (9, 0), (9, 0), (9, 0), (9, 0), (9, 0), (9, 0), (9, 0), (9, 0), (9, 0), (9, 0)] [(0, 0)] m0 Q
      refine zw_40_1 zr_206_5 ?_ ?_
      · intro h7
        refine zw_push zr_206_18 ?_
        refine zw_R zr_206_20 (by decide) zm_206 (v := (0, (-2))) rfl ?_
        rw [← hQ]; exact ⟨_, rfl, by omega, by omega, hI0, hF0, by omega⟩
      · intro h9; omega
    · intro h10
      refine zw_push zr_140_13 ?_
      refine zw_42 zr_140_14 ?_
      refine zw_R zr_140_18 (by decide) zm_140 (v := (0, 1)) (zRetB (by omega)) ?_
      rw [← hQ2]
      show zW E (d - 1) 143 13 [(2, 69), (0, a0)] [(0, 1)] m0 Q1
      refine zw_R zr_143_13 (by decide) zm_143 (v := (0, 1)) (zRetB (by omega)) ?_
      rw [← hQ1]
      show zW E (d) 206 5 [(2, 69), (0, a0), (0, a1), (9, 0), (9, 0), (9, 0), (9, 0), (9, 0), (9, 0), (9, 0), (9, 0), (9, 0), (9, 0), (9, 0), (9, 0), (9, 0), (9, 0), (9, 0)] [(0, 1)] m0 Q
      refine zw_40_1 zr_206_5 ?_ ?_
      · intro h11; omega
      · intro h12
        refine zw_3 zr_206_8 rfl ?_
        refine zw_36 zr_206_9 ?_
        refine zw_push zr_206_10 ?_
        refine zw_push zr_206_11 ?_
        refine zw_C zr_206_12 (Or.inr rfl) zm_140 rfl rfl ⟨Nat.le_of_ble_eq_true rfl, Nat.le_of_ble_eq_true rfl, Nat.le_of_ble_eq_true rfl, rfl, by decide⟩ (by omega) (P := (fun v m' => zW E (d) 206 15 [(2, 69), (0, a0), (0, a1), (9, 0), (9, 0), (9, 0), (9, 0), (9, 0), (9, 0), (9, 0), (9, 0), (9, 0), (9, 0), (9, 0), (9, 0), (9, 0), (9, 0), (9, 0)] (if v.1 = 9 then [] else v :: []) m' Q)) ?_ (fun _ _ h => h)
        generalize hQ1 : (fun v m' => zW E (d) 206 15 [(2, 69), (0, a0), (0, a1), (9, 0), (9, 0), (9, 0), (9, 0), (9, 0), (9, 0), (9, 0), (9, 0), (9, 0), (9, 0), (9, 0), (9, 0), (9, 0), (9, 0), (9, 0)] (if v.1 = 9 then [] else v :: []) m' Q) = Q1
        show zW E (d - 1) 140 0 [(1, a1), (9, 0), (1, 0), (9, 0), (1, 1), (9, 0)] [] m0 Q1
        refine zw_5 zr_140_0 rfl ?_
        refine zw_5 zr_140_1 rfl ?_
        refine zw_39_0 zr_140_2 zr_140_3 ?_ ?_
        · intro h13
          refine zw_push zr_140_17 ?_
          refine zw_R zr_140_18 (by decide) zm_140 (v := (0, 0)) (zRetB (by omega)) ?_
          rw [← hQ1]
          show zW E (d) 206 15 [(2, 69), (0, a0), (0, a1), (9, 0), (9, 0), (9, 0), (9, 0), (9, 0), (9, 0), (9, 0), (9, 0), (9, 0), (9, 0), (9, 0), (9, 0), (9, 0), (9, 0), (9, 0)] [(0, 0)] m0 Q
          refine zw_40_4 zr_206_15 ?_ ?_
          · intro h14; omega
          · intro h15
            refine zw_push zr_206_18 ?_
            refine zw_R zr_206_20 (by decide) zm_206 (v := (0, (-2))) rfl ?_
            rw [← hQ]; exact ⟨_, rfl, by omega, by omega, hI0, hF0, by omega⟩
        · intro h17
          refine zw_5 zr_140_6 rfl ?_
          refine zw_6 zr_140_7 rfl ?_
          refine zw_39_2 zr_140_9 zr_140_10 ?_ ?_
          · intro h18
            refine zw_push zr_140_17 ?_
            refine zw_R zr_140_18 (by decide) zm_140 (v := (0, 0)) (zRetB (by omega)) ?_
            rw [← hQ1]
            show zW E (d) 206 15 [(2, 69), (0, a0), (0, a1), (9, 0), (9, 0), (9, 0), (9, 0), (9, 0), (9, 0), (9, 0), (9, 0), (9, 0), (9, 0), (9, 0), (9, 0), (9, 0), (9, 0), (9, 0)] [(0, 0)] m0 Q
            refine zw_40_4 zr_206_15 ?_ ?_
            · intro h19; omega
            · intro h20
              refine zw_push zr_206_18 ?_
              refine zw_R zr_206_20 (by decide) zm_206 (v := (0, (-2))) rfl ?_
              rw [← hQ]; exact ⟨_, rfl, by omega, by omega, hI0, hF0, by omega⟩
          · intro h22
            refine zw_push zr_140_13 ?_
            refine zw_42 zr_140_14 ?_
            refine zw_R zr_140_18 (by decide) zm_140 (v := (0, 1)) (zRetB (by omega)) ?_
            rw [← hQ1]
            show zW E (d) 206 15 [(2, 69), (0, a0), (0, a1), (9, 0), (9, 0), (9, 0), (9, 0), (9, 0), (9, 0), (9, 0), (9, 0), (9, 0), (9, 0), (9, 0), (9, 0), (9, 0), (9, 0), (9, 0)] [(0, 1)] m0 Q
            refine zw_40_4 zr_206_15 ?_ ?_
            · intro h23
              refine zw_push zr_206_21 ?_
              refine zw_13 (L' := [(2, 69), (0, a0), (0, a1), (1, 0), (9, 0), (9, 0), (9, 0), (9, 0), (9, 0), (9, 0), (9, 0), (9, 0), (9, 0), (9, 0), (9, 0), (9, 0), (9, 0), (9, 0)]) zr_206_22 (Nat.le_of_ble_eq_true rfl) rfl ?_
              refine zw_push zr_206_23 ?_
              refine zw_14 (L' := [(2, 69), (0, a0), (0, a1), (1, 0), (9, 0), (1, 0), (9, 0), (9, 0), (9, 0), (9, 0), (9, 0), (9, 0), (9, 0), (9, 0), (9, 0), (9, 0), (9, 0), (9, 0)]) zr_206_24 (Nat.le_of_ble_eq_true rfl) rfl ?_
              refine zw_push zr_206_26 ?_
              refine zw_14 (L' := [(2, 69), (0, a0), (0, a1), (1, 0), (9, 0), (1, 0), (9, 0), (1, 0), (9, 0), (9, 0), (9, 0), (9, 0), (9, 0), (9, 0), (9, 0), (9, 0), (9, 0), (9, 0)]) zr_206_27 (Nat.le_of_ble_eq_true rfl) rfl ?_
              refine zw_push zr_206_29 ?_
              refine zw_14 (L' := [(2, 69), (0, a0), (0, a1), (1, 0), (9, 0), (1, 0), (9, 0), (1, 0), (9, 0), (1, 1), (9, 0), (9, 0), (9, 0), (9, 0), (9, 0), (9, 0), (9, 0), (9, 0)]) zr_206_30 (Nat.le_of_ble_eq_true rfl) rfl ?_
              refine zw_push zr_206_32 ?_
              refine zw_14 (L' := [(2, 69), (0, a0), (0, a1), (1, 0), (9, 0), (1, 0), (9, 0), (1, 0), (9, 0), (1, 1), (9, 0), (1, 0), (9, 0), (9, 0), (9, 0), (9, 0), (9, 0), (9, 0)]) zr_206_33 (Nat.le_of_ble_eq_true rfl) rfl ?_
              refine zw_push zr_206_35 ?_
              refine zw_10 (L' := [(2, 69), (0, a0), (0, a1), (1, 0), (9, 0), (1, 0), (9, 0), (1, 0), (9, 0), (1, 1), (9, 0), (1, 0), (9, 0), (0, 0), (9, 0), (9, 0), (9, 0), (9, 0)]) zr_206_36 (Nat.le_of_ble_eq_true rfl) rfl ?_
              refine zw_4 zr_206_38 rfl ?_
              refine zw_push zr_206_40 ?_
              refine zw_41_3 zr_206_41 ?_ ?_
              · intro h24; omega
              · intro h25
                refine zw_7 zr_206_44 rfl ?_
                refine zw_46r (s := 70) zr_206_45 rfl rfl rfl rfl ?_
                refine zw_push zr_206_48 ?_
                refine zw_push zr_206_50 ?_
                refine zw_3 zr_206_52 rfl ?_
                refine zw_18 zr_206_53 (by omega) ?_
                refine zw_16 zr_206_54 (by omega) ?_
                refine zw_push zr_206_55 ?_
                refine zw_4 zr_206_56 rfl ?_
                refine zw_18 zr_206_58 (by omega) ?_
                refine zw_16 zr_206_59 (by omega) ?_
                refine zw_48 (c := 70) (len := 826) zr_206_60 rfl rfl (by omega) (by omega) ?_
                intro x26 ex26
                have bx26 := ib_70_moves hI0 (k := (((10 + (8 * a0)) + (2 * 0))).toNat) (by omega)
                rw [← ex26] at bx26
                have qx26 : x26 = F70 (((10 + (8 * a0)) + (2 * 0))).toNat := by rw [← hG70]; exact ex26
                clear ex26
                refine zw_36 zr_206_61 ?_
                refine zw_14 (L' := [(2, 69), (0, a0), (0, a1), (1, 0), (9, 0), (1, 0), (9, 0), (1, 0), (9, 0), (1, 1), (9, 0), (1, 0), (9, 0), (0, 0), (1, x26), (9, 0), (9, 0), (9, 0)]) zr_206_62 (Nat.le_of_ble_eq_true rfl) rfl ?_
                refine zw_7 zr_206_64 rfl ?_
                refine zw_46r (s := 70) zr_206_65 rfl rfl rfl rfl ?_
                refine zw_push zr_206_68 ?_
                refine zw_push zr_206_70 ?_
                refine zw_3 zr_206_72 rfl ?_
                refine zw_18 zr_206_73 (by omega) ?_
                refine zw_16 zr_206_74 (by omega) ?_
                refine zw_push zr_206_75 ?_
                refine zw_4 zr_206_76 rfl ?_
                refine zw_18 zr_206_78 (by omega) ?_
                refine zw_16 zr_206_79 (by omega) ?_
                refine zw_push zr_206_80 ?_
                refine zw_16 zr_206_81 (by omega) ?_
                refine zw_48 (c := 70) (len := 826) zr_206_82 rfl rfl (by omega) (by omega) ?_
                intro x27 ex27
                have bx27 := ib_70_moves hI0 (k := ((((10 + (8 * a0)) + (2 * 0)) + 1)).toNat) (by omega)
                rw [← ex27] at bx27
                have qx27 : x27 = F70 ((((10 + (8 * a0)) + (2 * 0)) + 1)).toNat := by rw [← hG70]; exact ex27
                clear ex27
                refine zw_36 zr_206_83 ?_
                refine zw_14 (L' := [(2, 69), (0, a0), (0, a1), (1, 0), (9, 0), (1, 0), (9, 0), (1, 0), (9, 0), (1, 1), (9, 0), (1, 0), (9, 0), (0, 0), (1, x26), (9, 0), (1, x27), (9, 0)]) zr_206_84 (Nat.le_of_ble_eq_true rfl) rfl ?_
                refine zw_6 zr_206_86 rfl ?_
                refine zw_push zr_206_88 ?_
                refine zw_39_5 zr_206_89 zr_206_90 ?_ ?_
                · intro h28
                  refine zw_15 (c := 1) (L' := [(2, 69), (0, a0), (0, a1), (1, 0), (9, 0), (1, 0), (9, 0), (1, 0), (9, 0), (1, 1), (9, 0), (1, 0), (9, 0), (0, (0 + 1)), (1, x26), (9, 0), (1, x27), (9, 0)]) zr_206_155 rfl (by decide) (by omega) rfl ?_
                  refine zw_42 zr_206_158 ?_
                  refine zw_4 zr_206_38 rfl ?_
                  refine zw_push zr_206_40 ?_
                  refine zw_41_3 zr_206_41 ?_ ?_
                  · intro h29; omega
                  · intro h30
                    refine zw_7 zr_206_44 rfl ?_
                    refine zw_46r (s := 70) zr_206_45 rfl rfl rfl rfl ?_
                    refine zw_push zr_206_48 ?_
                    refine zw_push zr_206_50 ?_
                    refine zw_3 zr_206_52 rfl ?_
                    refine zw_18 zr_206_53 (by omega) ?_
                    refine zw_16 zr_206_54 (by omega) ?_
                    refine zw_push zr_206_55 ?_
                    refine zw_4 zr_206_56 rfl ?_
                    refine zw_18 zr_206_58 (by omega) ?_
                    refine zw_16 zr_206_59 (by omega) ?_
                    refine zw_48 (c := 70) (len := 826) zr_206_60 rfl rfl (by omega) (by omega) ?_
                    intro x31 ex31
                    have bx31 := ib_70_moves hI0 (k := (((10 + (8 * a0)) + (2 * (0 + 1)))).toNat) (by omega)
                    rw [← ex31] at bx31
                    have qx31 : x31 = F70 (((10 + (8 * a0)) + (2 * (0 + 1)))).toNat := by rw [← hG70]; exact ex31
                    clear ex31
                    refine zw_36 zr_206_61 ?_
                    refine zw_14 (L' := [(2, 69), (0, a0), (0, a1), (1, 0), (9, 0), (1, 0), (9, 0), (1, 0), (9, 0), (1, 1), (9, 0), (1, 0), (9, 0), (0, (0 + 1)), (1, x31), (9, 0), (1, x27), (9, 0)]) zr_206_62 (Nat.le_of_ble_eq_true rfl) rfl ?_
                    refine zw_7 zr_206_64 rfl ?_
                    refine zw_46r (s := 70) zr_206_65 rfl rfl rfl rfl ?_
                    refine zw_push zr_206_68 ?_
                    refine zw_push zr_206_70 ?_
                    refine zw_3 zr_206_72 rfl ?_
                    refine zw_18 zr_206_73 (by omega) ?_
                    refine zw_16 zr_206_74 (by omega) ?_
                    refine zw_push zr_206_75 ?_
                    refine zw_4 zr_206_76 rfl ?_
                    refine zw_18 zr_206_78 (by omega) ?_
                    refine zw_16 zr_206_79 (by omega) ?_
                    refine zw_push zr_206_80 ?_
                    refine zw_16 zr_206_81 (by omega) ?_
                    refine zw_48 (c := 70) (len := 826) zr_206_82 rfl rfl (by omega) (by omega) ?_
                    intro x32 ex32
                    have bx32 := ib_70_moves hI0 (k := ((((10 + (8 * a0)) + (2 * (0 + 1))) + 1)).toNat) (by omega)
                    rw [← ex32] at bx32
                    have qx32 : x32 = F70 ((((10 + (8 * a0)) + (2 * (0 + 1))) + 1)).toNat := by rw [← hG70]; exact ex32
                    clear ex32
                    refine zw_36 zr_206_83 ?_
                    refine zw_14 (L' := [(2, 69), (0, a0), (0, a1), (1, 0), (9, 0), (1, 0), (9, 0), (1, 0), (9, 0), (1, 1), (9, 0), (1, 0), (9, 0), (0, (0 + 1)), (1, x31), (9, 0), (1, x32), (9, 0)]) zr_206_84 (Nat.le_of_ble_eq_true rfl) rfl ?_
                    refine zw_6 zr_206_86 rfl ?_
                    refine zw_push zr_206_88 ?_
                    refine zw_39_5 zr_206_89 zr_206_90 ?_ ?_
                    · intro h33
                      refine zw_15 (c := 1) (L' := [(2, 69), (0, a0), (0, a1), (1, 0), (9, 0), (1, 0), (9, 0), (1, 0), (9, 0), (1, 1), (9, 0), (1, 0), (9, 0), (0, ((0 + 1) + 1)), (1, x31), (9, 0), (1, x32), (9, 0)]) zr_206_155 rfl (by decide) (by omega) rfl ?_
                      refine zw_42 zr_206_158 ?_
                      refine zw_4 zr_206_38 rfl ?_
                      refine zw_push zr_206_40 ?_
                      refine zw_41_3 zr_206_41 ?_ ?_
                      · intro h34; omega
                      · intro h35
                        refine zw_7 zr_206_44 rfl ?_
                        refine zw_46r (s := 70) zr_206_45 rfl rfl rfl rfl ?_
                        refine zw_push zr_206_48 ?_
                        refine zw_push zr_206_50 ?_
                        refine zw_3 zr_206_52 rfl ?_
                        refine zw_18 zr_206_53 (by omega) ?_
                        refine zw_16 zr_206_54 (by omega) ?_
                        refine zw_push zr_206_55 ?_
                        refine zw_4 zr_206_56 rfl ?_
                        refine zw_18 zr_206_58 (by omega) ?_
                        refine zw_16 zr_206_59 (by omega) ?_
                        refine zw_48 (c := 70) (len := 826) zr_206_60 rfl rfl (by omega) (by omega) ?_
                        intro x36 ex36
                        have bx36 := ib_70_moves hI0 (k := (((10 + (8 * a0)) + (2 * ((0 + 1) + 1)))).toNat) (by omega)
                        rw [← ex36] at bx36
                        have qx36 : x36 = F70 (((10 + (8 * a0)) + (2 * ((0 + 1) + 1)))).toNat := by rw [← hG70]; exact ex36
                        clear ex36
                        refine zw_36 zr_206_61 ?_
                        refine zw_14 (L' := [(2, 69), (0, a0), (0, a1), (1, 0), (9, 0), (1, 0), (9, 0), (1, 0), (9, 0), (1, 1), (9, 0), (1, 0), (9, 0), (0, ((0 + 1) + 1)), (1, x36), (9, 0), (1, x32), (9, 0)]) zr_206_62 (Nat.le_of_ble_eq_true rfl) rfl ?_
                        refine zw_7 zr_206_64 rfl ?_
                        refine zw_46r (s := 70) zr_206_65 rfl rfl rfl rfl ?_
                        refine zw_push zr_206_68 ?_
                        refine zw_push zr_206_70 ?_
                        refine zw_3 zr_206_72 rfl ?_
                        refine zw_18 zr_206_73 (by omega) ?_
                        refine zw_16 zr_206_74 (by omega) ?_
                        refine zw_push zr_206_75 ?_
                        refine zw_4 zr_206_76 rfl ?_
                        refine zw_18 zr_206_78 (by omega) ?_
                        refine zw_16 zr_206_79 (by omega) ?_
                        refine zw_push zr_206_80 ?_
                        refine zw_16 zr_206_81 (by omega) ?_
                        refine zw_48 (c := 70) (len := 826) zr_206_82 rfl rfl (by omega) (by omega) ?_
                        intro x37 ex37
                        have bx37 := ib_70_moves hI0 (k := ((((10 + (8 * a0)) + (2 * ((0 + 1) + 1))) + 1)).toNat) (by omega)
                        rw [← ex37] at bx37
                        have qx37 : x37 = F70 ((((10 + (8 * a0)) + (2 * ((0 + 1) + 1))) + 1)).toNat := by rw [← hG70]; exact ex37
                        clear ex37
                        refine zw_36 zr_206_83 ?_
                        refine zw_14 (L' := [(2, 69), (0, a0), (0, a1), (1, 0), (9, 0), (1, 0), (9, 0), (1, 0), (9, 0), (1, 1), (9, 0), (1, 0), (9, 0), (0, ((0 + 1) + 1)), (1, x36), (9, 0), (1, x37), (9, 0)]) zr_206_84 (Nat.le_of_ble_eq_true rfl) rfl ?_
                        refine zw_6 zr_206_86 rfl ?_
                        refine zw_push zr_206_88 ?_
                        refine zw_39_5 zr_206_89 zr_206_90 ?_ ?_
                        · intro h38
                          refine zw_15 (c := 1) (L' := [(2, 69), (0, a0), (0, a1), (1, 0), (9, 0), (1, 0), (9, 0), (1, 0), (9, 0), (1, 1), (9, 0), (1, 0), (9, 0), (0, (((0 + 1) + 1) + 1)), (1, x36), (9, 0), (1, x37), (9, 0)]) zr_206_155 rfl (by decide) (by omega) rfl ?_
                          refine zw_42 zr_206_158 ?_
                          refine zw_4 zr_206_38 rfl ?_
                          refine zw_push zr_206_40 ?_
                          refine zw_41_3 zr_206_41 ?_ ?_
                          · intro h39; omega
                          · intro h40
                            refine zw_7 zr_206_44 rfl ?_
                            refine zw_46r (s := 70) zr_206_45 rfl rfl rfl rfl ?_
                            refine zw_push zr_206_48 ?_
                            refine zw_push zr_206_50 ?_
                            refine zw_3 zr_206_52 rfl ?_
                            refine zw_18 zr_206_53 (by omega) ?_
                            refine zw_16 zr_206_54 (by omega) ?_
                            refine zw_push zr_206_55 ?_
                            refine zw_4 zr_206_56 rfl ?_
                            refine zw_18 zr_206_58 (by omega) ?_
                            refine zw_16 zr_206_59 (by omega) ?_
                            refine zw_48 (c := 70) (len := 826) zr_206_60 rfl rfl (by omega) (by omega) ?_
                            intro x41 ex41
                            have bx41 := ib_70_moves hI0 (k := (((10 + (8 * a0)) + (2 * (((0 + 1) + 1) + 1)))).toNat) (by omega)
                            rw [← ex41] at bx41
                            have qx41 : x41 = F70 (((10 + (8 * a0)) + (2 * (((0 + 1) + 1) + 1)))).toNat := by rw [← hG70]; exact ex41
                            clear ex41
                            refine zw_36 zr_206_61 ?_
                            refine zw_14 (L' := [(2, 69), (0, a0), (0, a1), (1, 0), (9, 0), (1, 0), (9, 0), (1, 0), (9, 0), (1, 1), (9, 0), (1, 0), (9, 0), (0, (((0 + 1) + 1) + 1)), (1, x41), (9, 0), (1, x37), (9, 0)]) zr_206_62 (Nat.le_of_ble_eq_true rfl) rfl ?_
                            refine zw_7 zr_206_64 rfl ?_
                            refine zw_46r (s := 70) zr_206_65 rfl rfl rfl rfl ?_
                            refine zw_push zr_206_68 ?_
                            refine zw_push zr_206_70 ?_
                            refine zw_3 zr_206_72 rfl ?_
                            refine zw_18 zr_206_73 (by omega) ?_
                            refine zw_16 zr_206_74 (by omega) ?_
                            refine zw_push zr_206_75 ?_
                            refine zw_4 zr_206_76 rfl ?_
                            refine zw_18 zr_206_78 (by omega) ?_
                            refine zw_16 zr_206_79 (by omega) ?_
                            refine zw_push zr_206_80 ?_
                            refine zw_16 zr_206_81 (by omega) ?_
                            refine zw_48 (c := 70) (len := 826) zr_206_82 rfl rfl (by omega) (by omega) ?_
                            intro x42 ex42
                            have bx42 := ib_70_moves hI0 (k := ((((10 + (8 * a0)) + (2 * (((0 + 1) + 1) + 1))) + 1)).toNat) (by omega)
                            rw [← ex42] at bx42
                            have qx42 : x42 = F70 ((((10 + (8 * a0)) + (2 * (((0 + 1) + 1) + 1))) + 1)).toNat := by rw [← hG70]; exact ex42
                            clear ex42
                            refine zw_36 zr_206_83 ?_
                            refine zw_14 (L' := [(2, 69), (0, a0), (0, a1), (1, 0), (9, 0), (1, 0), (9, 0), (1, 0), (9, 0), (1, 1), (9, 0), (1, 0), (9, 0), (0, (((0 + 1) + 1) + 1)), (1, x41), (9, 0), (1, x42), (9, 0)]) zr_206_84 (Nat.le_of_ble_eq_true rfl) rfl ?_
                            refine zw_6 zr_206_86 rfl ?_
                            refine zw_push zr_206_88 ?_
                            refine zw_39_5 zr_206_89 zr_206_90 ?_ ?_
                            · intro h43
                              refine zw_15 (c := 1) (L' := [(2, 69), (0, a0), (0, a1), (1, 0), (9, 0), (1, 0), (9, 0), (1, 0), (9, 0), (1, 1), (9, 0), (1, 0), (9, 0), (0, ((((0 + 1) + 1) + 1) + 1)), (1, x41), (9, 0), (1, x42), (9, 0)]) zr_206_155 rfl (by decide) (by omega) rfl ?_
                              refine zw_42 zr_206_158 ?_
                              refine zw_4 zr_206_38 rfl ?_
                              refine zw_push zr_206_40 ?_
                              refine zw_41_3 zr_206_41 ?_ ?_
                              · intro h44
                                refine zw_6 zr_206_161 rfl ?_
                                refine zw_push zr_206_163 ?_
                                refine zw_39_4 zr_206_164 zr_206_165 ?_ ?_
                                · intro h45; omega
                                · intro h46
                                  refine zw_push zr_206_168 ?_
                                  refine zw_R zr_206_170 (by decide) zm_206 (v := (0, (-3))) rfl ?_
                                  rw [← hQ]; exact ⟨_, rfl, by omega, by omega, hI0, hF0, by omega⟩
                              · intro h48; omega
                            · intro h49
                              refine zw_5 zr_206_93 rfl ?_
                              refine zw_6 zr_206_94 rfl ?_
                              refine zw_27 zr_206_96 (by omega) ?_
                              refine zw_13 (L' := [(2, 69), (0, a0), (0, a1), (1, (0 + x41)), (9, 0), (1, 0), (9, 0), (1, 0), (9, 0), (1, 1), (9, 0), (1, 0), (9, 0), (0, (((0 + 1) + 1) + 1)), (1, x41), (9, 0), (1, x42), (9, 0)]) zr_206_97 (Nat.le_of_ble_eq_true rfl) rfl ?_
                              refine zw_6 zr_206_98 rfl ?_
                              refine zw_6 zr_206_100 rfl ?_
                              refine zw_27 zr_206_102 (by omega) ?_
                              refine zw_14 (L' := [(2, 69), (0, a0), (0, a1), (1, (0 + x41)), (9, 0), (1, (0 + x42)), (9, 0), (1, 0), (9, 0), (1, 1), (9, 0), (1, 0), (9, 0), (0, (((0 + 1) + 1) + 1)), (1, x41), (9, 0), (1, x42), (9, 0)]) zr_206_103 (Nat.le_of_ble_eq_true rfl) rfl ?_
                              refine zw_6 zr_206_105 rfl ?_
                              refine zw_6 zr_206_107 rfl ?_
                              refine zw_29 zr_206_109 (by omega) ?_
                              refine zw_7 zr_206_110 rfl ?_
                              refine zw_46r (s := 70) zr_206_111 rfl rfl rfl rfl ?_
                              refine zw_push zr_206_114 ?_
                              refine zw_4 zr_206_117 rfl ?_
                              refine zw_16 zr_206_119 (by omega) ?_
                              obtain ⟨f50, ef50⟩ : ∃ v, m0 70 821 = v := ⟨_, rfl⟩
                              have bf50 : 1 ≤ m0 70 821 ∧ m0 70 821 ≤ 9 := ib_70_weight hI0 (by omega)
                              rw [ef50] at bf50
                              refine zw_48k (c := 70) (len := 826) zr_206_120 rfl rfl (by omega) (by omega) (show ((818 + (((0 + 1) + 1) + 1)) : Int).toNat = 821 by omega) ef50 ?_
                              refine zw_36 zr_206_121 ?_
                              refine zw_6 zr_206_122 rfl ?_
                              refine zw_29h zr_206_124 ?_
                              intro x51 hx51a hx51b
                              refine zw_6 zr_206_125 rfl ?_
                              refine zw_29 zr_206_127 (by omega) ?_
                              refine zw_27 zr_206_128 (by omega) ?_
                              refine zw_14 (L' := [(2, 69), (0, a0), (0, a1), (1, (0 + x41)), (9, 0), (1, (0 + x42)), (9, 0), (1, ((0 * x42) + (x51 * 1))), (9, 0), (1, 1), (9, 0), (1, 0), (9, 0), (0, (((0 + 1) + 1) + 1)), (1, x41), (9, 0), (1, x42), (9, 0)]) zr_206_129 (Nat.le_of_ble_eq_true rfl) rfl ?_
                              refine zw_6 zr_206_131 rfl ?_
                              refine zw_6 zr_206_133 rfl ?_
                              refine zw_29 zr_206_135 (by omega) ?_
                              refine zw_14 (L' := [(2, 69), (0, a0), (0, a1), (1, (0 + x41)), (9, 0), (1, (0 + x42)), (9, 0), (1, ((0 * x42) + (x51 * 1))), (9, 0), (1, (1 * x42)), (9, 0), (1, 0), (9, 0), (0, (((0 + 1) + 1) + 1)), (1, x41), (9, 0), (1, x42), (9, 0)]) zr_206_136 (Nat.le_of_ble_eq_true rfl) rfl ?_
                              refine zw_6 zr_206_138 rfl ?_
                              refine zw_7 zr_206_140 rfl ?_
                              refine zw_46r (s := 70) zr_206_141 rfl rfl rfl rfl ?_
                              refine zw_push zr_206_144 ?_
                              refine zw_4 zr_206_147 rfl ?_
                              refine zw_16 zr_206_149 (by omega) ?_
                              refine zw_48k (c := 70) (len := 826) zr_206_150 rfl rfl (by omega) (by omega) (show ((818 + (((0 + 1) + 1) + 1)) : Int).toNat = 821 by omega) ef50 ?_
                              refine zw_36 zr_206_151 ?_
                              refine zw_27 zr_206_152 (by omega) ?_
                              refine zw_14 (L' := [(2, 69), (0, a0), (0, a1), (1, (0 + x41)), (9, 0), (1, (0 + x42)), (9, 0), (1, ((0 * x42) + (x51 * 1))), (9, 0), (1, (1 * x42)), (9, 0), (1, (0 + f50)), (9, 0), (0, (((0 + 1) + 1) + 1)), (1, x41), (9, 0), (1, x42), (9, 0)]) zr_206_153 (Nat.le_of_ble_eq_true rfl) rfl ?_
                              refine zw_15 (c := 1) (L' := [(2, 69), (0, a0), (0, a1), (1, (0 + x41)), (9, 0), (1, (0 + x42)), (9, 0), (1, ((0 * x42) + (x51 * 1))), (9, 0), (1, (1 * x42)), (9, 0), (1, (0 + f50)), (9, 0), (0, ((((0 + 1) + 1) + 1) + 1)), (1, x41), (9, 0), (1, x42), (9, 0)]) zr_206_155 rfl (by decide) (by omega) rfl ?_
                              refine zw_42 zr_206_158 ?_
                              refine zw_4 zr_206_38 rfl ?_
                              refine zw_push zr_206_40 ?_
                              refine zw_41_3 zr_206_41 ?_ ?_
                              · intro h52
                                refine zw_6 zr_206_161 rfl ?_
                                refine zw_push zr_206_163 ?_
                                refine zw_39_4 zr_206_164 zr_206_165 ?_ ?_
                                · intro h53
                                  refine zw_3 zr_206_171 rfl ?_
                                  refine zw_40_4 zr_206_172 ?_ ?_
                                  · intro h54
                                    refine zw_7 zr_206_185 rfl ?_
                                    refine zw_6 zr_206_186 rfl ?_
                                    refine zw_6 zr_206_188 rfl ?_
                                    refine zw_6 zr_206_190 rfl ?_
                                    refine zw_29p (A := 99) (B := 9) zr_206_192 (by omega) (by omega) (by omega) (by omega) (by decide) ?_
                                    intro x55 hx55a hx55b
                                    refine zw_C zr_206_193 (Or.inl rfl) zm_173 rfl rfl ⟨Nat.le_of_ble_eq_true rfl, Nat.le_of_ble_eq_true rfl, Nat.le_of_ble_eq_true rfl, rfl, by decide⟩ (by omega) (th_173 (d := d - 1) (by omega) hI0 (a0 := ((0 * x42) + (x51 * 1))) (a1 := x55)      (by omega) (by omega) ) ?_
                                    rintro _ m56 ⟨rfl, hIm56, gm56⟩
                                    have hFm56 : zFr W_206 m0 m56 := hF0.trans gm56 rfl
                                    have km56_70_822 : m56 70 822 = g0 := (gm56 70 822 rfl).trans hg0
                                    have km56_70_821 : m56 70 821 = f50 := (gm56 70 821 rfl).trans ef50
                                    have fm56_70 : m56 70 = F70 := (funext fun k => gm56 70 k rfl).trans hG70
                                    show zW E (d) 206 196 [(2, 69), (0, a0), (0, a1), (1, (0 + x41)), (9, 0), (1, (0 + x42)), (9, 0), (1, ((0 * x42) + (x51 * 1))), (9, 0), (1, (1 * x42)), (9, 0), (1, (0 + f50)), (9, 0), (0, ((((0 + 1) + 1) + 1) + 1)), (1, x41), (9, 0), (1, x42), (9, 0)] [] m56 Q
                                    refine zw_push zr_206_196 ?_
                                    refine zw_R zr_206_197 (by decide) zm_206 (v := (0, 1)) rfl ?_
                                    rw [← hQ]; exact ⟨_, rfl, by omega, by omega, hIm56, hFm56, by omega⟩
                                  · intro h58
                                    refine zw_7 zr_206_175 rfl ?_
                                    refine zw_5 zr_206_176 rfl ?_
                                    refine zw_6 zr_206_177 rfl ?_
                                    refine zw_C zr_206_179 (Or.inl rfl) zm_173 rfl rfl ⟨Nat.le_of_ble_eq_true rfl, Nat.le_of_ble_eq_true rfl, Nat.le_of_ble_eq_true rfl, rfl, by decide⟩ (by omega) (th_173 (d := d - 1) (by omega) hI0 (a0 := (0 + x41)) (a1 := (0 + x42))      (by omega) (by omega) ) ?_
                                    rintro _ m59 ⟨rfl, hIm59, gm59⟩
                                    have hFm59 : zFr W_206 m0 m59 := hF0.trans gm59 rfl
                                    have km59_70_822 : m59 70 822 = g0 := (gm59 70 822 rfl).trans hg0
                                    have km59_70_821 : m59 70 821 = f50 := (gm59 70 821 rfl).trans ef50
                                    have fm59_70 : m59 70 = F70 := (funext fun k => gm59 70 k rfl).trans hG70
                                    show zW E (d) 206 182 [(2, 69), (0, a0), (0, a1), (1, (0 + x41)), (9, 0), (1, (0 + x42)), (9, 0), (1, ((0 * x42) + (x51 * 1))), (9, 0), (1, (1 * x42)), (9, 0), (1, (0 + f50)), (9, 0), (0, ((((0 + 1) + 1) + 1) + 1)), (1, x41), (9, 0), (1, x42), (9, 0)] [] m59 Q
                                    refine zw_42 zr_206_182 ?_
                                    refine zw_push zr_206_196 ?_
                                    refine zw_R zr_206_197 (by decide) zm_206 (v := (0, 1)) rfl ?_
                                    rw [← hQ]; exact ⟨_, rfl, by omega, by omega, hIm59, hFm59, by omega⟩
                                · intro h61; omega
                              · intro h62; omega
                        · intro h63
                          refine zw_5 zr_206_93 rfl ?_
                          refine zw_6 zr_206_94 rfl ?_
                          refine zw_27 zr_206_96 (by omega) ?_
                          refine zw_13 (L' := [(2, 69), (0, a0), (0, a1), (1, (0 + x36)), (9, 0), (1, 0), (9, 0), (1, 0), (9, 0), (1, 1), (9, 0), (1, 0), (9, 0), (0, ((0 + 1) + 1)), (1, x36), (9, 0), (1, x37), (9, 0)]) zr_206_97 (Nat.le_of_ble_eq_true rfl) rfl ?_
                          refine zw_6 zr_206_98 rfl ?_
                          refine zw_6 zr_206_100 rfl ?_
                          refine zw_27 zr_206_102 (by omega) ?_
                          refine zw_14 (L' := [(2, 69), (0, a0), (0, a1), (1, (0 + x36)), (9, 0), (1, (0 + x37)), (9, 0), (1, 0), (9, 0), (1, 1), (9, 0), (1, 0), (9, 0), (0, ((0 + 1) + 1)), (1, x36), (9, 0), (1, x37), (9, 0)]) zr_206_103 (Nat.le_of_ble_eq_true rfl) rfl ?_
                          refine zw_6 zr_206_105 rfl ?_
                          refine zw_6 zr_206_107 rfl ?_
                          refine zw_29 zr_206_109 (by omega) ?_
                          refine zw_7 zr_206_110 rfl ?_
                          refine zw_46r (s := 70) zr_206_111 rfl rfl rfl rfl ?_
                          refine zw_push zr_206_114 ?_
                          refine zw_4 zr_206_117 rfl ?_
                          refine zw_16 zr_206_119 (by omega) ?_
                          obtain ⟨f64, ef64⟩ : ∃ v, m0 70 820 = v := ⟨_, rfl⟩
                          have bf64 : 1 ≤ m0 70 820 ∧ m0 70 820 ≤ 9 := ib_70_weight hI0 (by omega)
                          rw [ef64] at bf64
                          refine zw_48k (c := 70) (len := 826) zr_206_120 rfl rfl (by omega) (by omega) (show ((818 + ((0 + 1) + 1)) : Int).toNat = 820 by omega) ef64 ?_
                          refine zw_36 zr_206_121 ?_
                          refine zw_6 zr_206_122 rfl ?_
                          refine zw_29h zr_206_124 ?_
                          intro x65 hx65a hx65b
                          refine zw_6 zr_206_125 rfl ?_
                          refine zw_29 zr_206_127 (by omega) ?_
                          refine zw_27 zr_206_128 (by omega) ?_
                          refine zw_14 (L' := [(2, 69), (0, a0), (0, a1), (1, (0 + x36)), (9, 0), (1, (0 + x37)), (9, 0), (1, ((0 * x37) + (x65 * 1))), (9, 0), (1, 1), (9, 0), (1, 0), (9, 0), (0, ((0 + 1) + 1)), (1, x36), (9, 0), (1, x37), (9, 0)]) zr_206_129 (Nat.le_of_ble_eq_true rfl) rfl ?_
                          refine zw_6 zr_206_131 rfl ?_
                          refine zw_6 zr_206_133 rfl ?_
                          refine zw_29 zr_206_135 (by omega) ?_
                          refine zw_14 (L' := [(2, 69), (0, a0), (0, a1), (1, (0 + x36)), (9, 0), (1, (0 + x37)), (9, 0), (1, ((0 * x37) + (x65 * 1))), (9, 0), (1, (1 * x37)), (9, 0), (1, 0), (9, 0), (0, ((0 + 1) + 1)), (1, x36), (9, 0), (1, x37), (9, 0)]) zr_206_136 (Nat.le_of_ble_eq_true rfl) rfl ?_
                          refine zw_6 zr_206_138 rfl ?_
                          refine zw_7 zr_206_140 rfl ?_
                          refine zw_46r (s := 70) zr_206_141 rfl rfl rfl rfl ?_
                          refine zw_push zr_206_144 ?_
                          refine zw_4 zr_206_147 rfl ?_
                          refine zw_16 zr_206_149 (by omega) ?_
                          refine zw_48k (c := 70) (len := 826) zr_206_150 rfl rfl (by omega) (by omega) (show ((818 + ((0 + 1) + 1)) : Int).toNat = 820 by omega) ef64 ?_
                          refine zw_36 zr_206_151 ?_
                          refine zw_27 zr_206_152 (by omega) ?_
                          refine zw_14 (L' := [(2, 69), (0, a0), (0, a1), (1, (0 + x36)), (9, 0), (1, (0 + x37)), (9, 0), (1, ((0 * x37) + (x65 * 1))), (9, 0), (1, (1 * x37)), (9, 0), (1, (0 + f64)), (9, 0), (0, ((0 + 1) + 1)), (1, x36), (9, 0), (1, x37), (9, 0)]) zr_206_153 (Nat.le_of_ble_eq_true rfl) rfl ?_
                          refine zw_15 (c := 1) (L' := [(2, 69), (0, a0), (0, a1), (1, (0 + x36)), (9, 0), (1, (0 + x37)), (9, 0), (1, ((0 * x37) + (x65 * 1))), (9, 0), (1, (1 * x37)), (9, 0), (1, (0 + f64)), (9, 0), (0, (((0 + 1) + 1) + 1)), (1, x36), (9, 0), (1, x37), (9, 0)]) zr_206_155 rfl (by decide) (by omega) rfl ?_
                          refine zw_42 zr_206_158 ?_
                          refine zw_4 zr_206_38 rfl ?_
                          refine zw_push zr_206_40 ?_
                          refine zw_41_3 zr_206_41 ?_ ?_
                          · intro h66; omega
                          · intro h67
                            refine zw_7 zr_206_44 rfl ?_
                            refine zw_46r (s := 70) zr_206_45 rfl rfl rfl rfl ?_
                            refine zw_push zr_206_48 ?_
                            refine zw_push zr_206_50 ?_
                            refine zw_3 zr_206_52 rfl ?_
                            refine zw_18 zr_206_53 (by omega) ?_
                            refine zw_16 zr_206_54 (by omega) ?_
                            refine zw_push zr_206_55 ?_
                            refine zw_4 zr_206_56 rfl ?_
                            refine zw_18 zr_206_58 (by omega) ?_
                            refine zw_16 zr_206_59 (by omega) ?_
                            refine zw_48 (c := 70) (len := 826) zr_206_60 rfl rfl (by omega) (by omega) ?_
                            intro x68 ex68
                            have bx68 := ib_70_moves hI0 (k := (((10 + (8 * a0)) + (2 * (((0 + 1) + 1) + 1)))).toNat) (by omega)
                            rw [← ex68] at bx68
                            have qx68 : x68 = F70 (((10 + (8 * a0)) + (2 * (((0 + 1) + 1) + 1)))).toNat := by rw [← hG70]; exact ex68
                            clear ex68
                            refine zw_36 zr_206_61 ?_
                            refine zw_14 (L' := [(2, 69), (0, a0), (0, a1), (1, (0 + x36)), (9, 0), (1, (0 + x37)), (9, 0), (1, ((0 * x37) + (x65 * 1))), (9, 0), (1, (1 * x37)), (9, 0), (1, (0 + f64)), (9, 0), (0, (((0 + 1) + 1) + 1)), (1, x68), (9, 0), (1, x37), (9, 0)]) zr_206_62 (Nat.le_of_ble_eq_true rfl) rfl ?_
                            refine zw_7 zr_206_64 rfl ?_
                            refine zw_46r (s := 70) zr_206_65 rfl rfl rfl rfl ?_
                            refine zw_push zr_206_68 ?_
                            refine zw_push zr_206_70 ?_
                            refine zw_3 zr_206_72 rfl ?_
                            refine zw_18 zr_206_73 (by omega) ?_
                            refine zw_16 zr_206_74 (by omega) ?_
                            refine zw_push zr_206_75 ?_
                            refine zw_4 zr_206_76 rfl ?_
                            refine zw_18 zr_206_78 (by omega) ?_
                            refine zw_16 zr_206_79 (by omega) ?_
                            refine zw_push zr_206_80 ?_
                            refine zw_16 zr_206_81 (by omega) ?_
                            refine zw_48 (c := 70) (len := 826) zr_206_82 rfl rfl (by omega) (by omega) ?_
                            intro x69 ex69
                            have bx69 := ib_70_moves hI0 (k := ((((10 + (8 * a0)) + (2 * (((0 + 1) + 1) + 1))) + 1)).toNat) (by omega)
                            rw [← ex69] at bx69
                            have qx69 : x69 = F70 ((((10 + (8 * a0)) + (2 * (((0 + 1) + 1) + 1))) + 1)).toNat := by rw [← hG70]; exact ex69
                            clear ex69
                            refine zw_36 zr_206_83 ?_
                            refine zw_14 (L' := [(2, 69), (0, a0), (0, a1), (1, (0 + x36)), (9, 0), (1, (0 + x37)), (9, 0), (1, ((0 * x37) + (x65 * 1))), (9, 0), (1, (1 * x37)), (9, 0), (1, (0 + f64)), (9, 0), (0, (((0 + 1) + 1) + 1)), (1, x68), (9, 0), (1, x69), (9, 0)]) zr_206_84 (Nat.le_of_ble_eq_true rfl) rfl ?_
                            refine zw_6 zr_206_86 rfl ?_
                            refine zw_push zr_206_88 ?_
                            refine zw_39_5 zr_206_89 zr_206_90 ?_ ?_
                            · intro h70
                              refine zw_15 (c := 1) (L' := [(2, 69), (0, a0), (0, a1), (1, (0 + x36)), (9, 0), (1, (0 + x37)), (9, 0), (1, ((0 * x37) + (x65 * 1))), (9, 0), (1, (1 * x37)), (9, 0), (1, (0 + f64)), (9, 0), (0, ((((0 + 1) + 1) + 1) + 1)), (1, x68), (9, 0), (1, x69), (9, 0)]) zr_206_155 rfl (by decide) (by omega) rfl ?_
                              refine zw_42 zr_206_158 ?_
                              refine zw_4 zr_206_38 rfl ?_
                              refine zw_push zr_206_40 ?_
                              refine zw_41_3 zr_206_41 ?_ ?_
                              · intro h71
                                refine zw_6 zr_206_161 rfl ?_
                                refine zw_push zr_206_163 ?_
                                refine zw_39_4 zr_206_164 zr_206_165 ?_ ?_
                                · intro h72
                                  refine zw_3 zr_206_171 rfl ?_
                                  refine zw_40_4 zr_206_172 ?_ ?_
                                  · intro h73
                                    refine zw_7 zr_206_185 rfl ?_
                                    refine zw_6 zr_206_186 rfl ?_
                                    refine zw_6 zr_206_188 rfl ?_
                                    refine zw_6 zr_206_190 rfl ?_
                                    refine zw_29p (A := 99) (B := 9) zr_206_192 (by omega) (by omega) (by omega) (by omega) (by decide) ?_
                                    intro x74 hx74a hx74b
                                    refine zw_C zr_206_193 (Or.inl rfl) zm_173 rfl rfl ⟨Nat.le_of_ble_eq_true rfl, Nat.le_of_ble_eq_true rfl, Nat.le_of_ble_eq_true rfl, rfl, by decide⟩ (by omega) (th_173 (d := d - 1) (by omega) hI0 (a0 := ((0 * x37) + (x65 * 1))) (a1 := x74)      (by omega) (by omega) ) ?_
                                    rintro _ m75 ⟨rfl, hIm75, gm75⟩
                                    have hFm75 : zFr W_206 m0 m75 := hF0.trans gm75 rfl
                                    have km75_70_822 : m75 70 822 = g0 := (gm75 70 822 rfl).trans hg0
                                    have km75_70_820 : m75 70 820 = f64 := (gm75 70 820 rfl).trans ef64
                                    have fm75_70 : m75 70 = F70 := (funext fun k => gm75 70 k rfl).trans hG70
                                    show zW E (d) 206 196 [(2, 69), (0, a0), (0, a1), (1, (0 + x36)), (9, 0), (1, (0 + x37)), (9, 0), (1, ((0 * x37) + (x65 * 1))), (9, 0), (1, (1 * x37)), (9, 0), (1, (0 + f64)), (9, 0), (0, ((((0 + 1) + 1) + 1) + 1)), (1, x68), (9, 0), (1, x69), (9, 0)] [] m75 Q
                                    refine zw_push zr_206_196 ?_
                                    refine zw_R zr_206_197 (by decide) zm_206 (v := (0, 1)) rfl ?_
                                    rw [← hQ]; exact ⟨_, rfl, by omega, by omega, hIm75, hFm75, by omega⟩
                                  · intro h77
                                    refine zw_7 zr_206_175 rfl ?_
                                    refine zw_5 zr_206_176 rfl ?_
                                    refine zw_6 zr_206_177 rfl ?_
                                    refine zw_C zr_206_179 (Or.inl rfl) zm_173 rfl rfl ⟨Nat.le_of_ble_eq_true rfl, Nat.le_of_ble_eq_true rfl, Nat.le_of_ble_eq_true rfl, rfl, by decide⟩ (by omega) (th_173 (d := d - 1) (by omega) hI0 (a0 := (0 + x36)) (a1 := (0 + x37))      (by omega) (by omega) ) ?_
                                    rintro _ m78 ⟨rfl, hIm78, gm78⟩
                                    have hFm78 : zFr W_206 m0 m78 := hF0.trans gm78 rfl
                                    have km78_70_822 : m78 70 822 = g0 := (gm78 70 822 rfl).trans hg0
                                    have km78_70_820 : m78 70 820 = f64 := (gm78 70 820 rfl).trans ef64
                                    have fm78_70 : m78 70 = F70 := (funext fun k => gm78 70 k rfl).trans hG70
                                    show zW E (d) 206 182 [(2, 69), (0, a0), (0, a1), (1, (0 + x36)), (9, 0), (1, (0 + x37)), (9, 0), (1, ((0 * x37) + (x65 * 1))), (9, 0), (1, (1 * x37)), (9, 0), (1, (0 + f64)), (9, 0), (0, ((((0 + 1) + 1) + 1) + 1)), (1, x68), (9, 0), (1, x69), (9, 0)] [] m78 Q
                                    refine zw_42 zr_206_182 ?_
                                    refine zw_push zr_206_196 ?_
                                    refine zw_R zr_206_197 (by decide) zm_206 (v := (0, 1)) rfl ?_
                                    rw [← hQ]; exact ⟨_, rfl, by omega, by omega, hIm78, hFm78, by omega⟩
                                · intro h80; omega
                              · intro h81; omega
                            · intro h82
                              refine zw_5 zr_206_93 rfl ?_
                              refine zw_6 zr_206_94 rfl ?_
                              refine zw_27 zr_206_96 (by omega) ?_
                              refine zw_13 (L' := [(2, 69), (0, a0), (0, a1), (1, ((0 + x36) + x68)), (9, 0), (1, (0 + x37)), (9, 0), (1, ((0 * x37) + (x65 * 1))), (9, 0), (1, (1 * x37)), (9, 0), (1, (0 + f64)), (9, 0), (0, (((0 + 1) + 1) + 1)), (1, x68), (9, 0), (1, x69), (9, 0)]) zr_206_97 (Nat.le_of_ble_eq_true rfl) rfl ?_
                              refine zw_6 zr_206_98 rfl ?_
                              refine zw_6 zr_206_100 rfl ?_
                              refine zw_27 zr_206_102 (by omega) ?_
                              refine zw_14 (L' := [(2, 69), (0, a0), (0, a1), (1, ((0 + x36) + x68)), (9, 0), (1, ((0 + x37) + x69)), (9, 0), (1, ((0 * x37) + (x65 * 1))), (9, 0), (1, (1 * x37)), (9, 0), (1, (0 + f64)), (9, 0), (0, (((0 + 1) + 1) + 1)), (1, x68), (9, 0), (1, x69), (9, 0)]) zr_206_103 (Nat.le_of_ble_eq_true rfl) rfl ?_
                              refine zw_6 zr_206_105 rfl ?_
                              refine zw_6 zr_206_107 rfl ?_
                              refine zw_29h zr_206_109 ?_
                              intro x83 hx83a hx83b
                              refine zw_7 zr_206_110 rfl ?_
                              refine zw_46r (s := 70) zr_206_111 rfl rfl rfl rfl ?_
                              refine zw_push zr_206_114 ?_
                              refine zw_4 zr_206_117 rfl ?_
                              refine zw_16 zr_206_119 (by omega) ?_
                              obtain ⟨f84, ef84⟩ : ∃ v, m0 70 821 = v := ⟨_, rfl⟩
                              have bf84 : 1 ≤ m0 70 821 ∧ m0 70 821 ≤ 9 := ib_70_weight hI0 (by omega)
                              rw [ef84] at bf84
                              refine zw_48k (c := 70) (len := 826) zr_206_120 rfl rfl (by omega) (by omega) (show ((818 + (((0 + 1) + 1) + 1)) : Int).toNat = 821 by omega) ef84 ?_
                              refine zw_36 zr_206_121 ?_
                              refine zw_6 zr_206_122 rfl ?_
                              refine zw_29h zr_206_124 ?_
                              intro x85 hx85a hx85b
                              refine zw_6 zr_206_125 rfl ?_
                              refine zw_29h zr_206_127 ?_
                              intro x86 hx86a hx86b
                              refine zw_27h zr_206_128 ?_
                              intro x87 hx87a hx87b
                              refine zw_14 (L' := [(2, 69), (0, a0), (0, a1), (1, ((0 + x36) + x68)), (9, 0), (1, ((0 + x37) + x69)), (9, 0), (1, x87), (9, 0), (1, (1 * x37)), (9, 0), (1, (0 + f64)), (9, 0), (0, (((0 + 1) + 1) + 1)), (1, x68), (9, 0), (1, x69), (9, 0)]) zr_206_129 (Nat.le_of_ble_eq_true rfl) rfl ?_
                              refine zw_6 zr_206_131 rfl ?_
                              refine zw_6 zr_206_133 rfl ?_
                              refine zw_29p (A := 99) (B := 99) zr_206_135 (by omega) (by omega) (by omega) (by omega) (by decide) ?_
                              intro x88 hx88a hx88b
                              refine zw_14 (L' := [(2, 69), (0, a0), (0, a1), (1, ((0 + x36) + x68)), (9, 0), (1, ((0 + x37) + x69)), (9, 0), (1, x87), (9, 0), (1, x88), (9, 0), (1, (0 + f64)), (9, 0), (0, (((0 + 1) + 1) + 1)), (1, x68), (9, 0), (1, x69), (9, 0)]) zr_206_136 (Nat.le_of_ble_eq_true rfl) rfl ?_
                              refine zw_6 zr_206_138 rfl ?_
                              refine zw_7 zr_206_140 rfl ?_
                              refine zw_46r (s := 70) zr_206_141 rfl rfl rfl rfl ?_
                              refine zw_push zr_206_144 ?_
                              refine zw_4 zr_206_147 rfl ?_
                              refine zw_16 zr_206_149 (by omega) ?_
                              refine zw_48k (c := 70) (len := 826) zr_206_150 rfl rfl (by omega) (by omega) (show ((818 + (((0 + 1) + 1) + 1)) : Int).toNat = 821 by omega) ef84 ?_
                              refine zw_36 zr_206_151 ?_
                              refine zw_27 zr_206_152 (by omega) ?_
                              refine zw_14 (L' := [(2, 69), (0, a0), (0, a1), (1, ((0 + x36) + x68)), (9, 0), (1, ((0 + x37) + x69)), (9, 0), (1, x87), (9, 0), (1, x88), (9, 0), (1, ((0 + f64) + f84)), (9, 0), (0, (((0 + 1) + 1) + 1)), (1, x68), (9, 0), (1, x69), (9, 0)]) zr_206_153 (Nat.le_of_ble_eq_true rfl) rfl ?_
                              refine zw_15 (c := 1) (L' := [(2, 69), (0, a0), (0, a1), (1, ((0 + x36) + x68)), (9, 0), (1, ((0 + x37) + x69)), (9, 0), (1, x87), (9, 0), (1, x88), (9, 0), (1, ((0 + f64) + f84)), (9, 0), (0, ((((0 + 1) + 1) + 1) + 1)), (1, x68), (9, 0), (1, x69), (9, 0)]) zr_206_155 rfl (by decide) (by omega) rfl ?_
                              refine zw_42 zr_206_158 ?_
                              refine zw_4 zr_206_38 rfl ?_
                              refine zw_push zr_206_40 ?_
                              refine zw_41_3 zr_206_41 ?_ ?_
                              · intro h89
                                refine zw_6 zr_206_161 rfl ?_
                                refine zw_push zr_206_163 ?_
                                refine zw_39_4 zr_206_164 zr_206_165 ?_ ?_
                                · intro h90
                                  refine zw_3 zr_206_171 rfl ?_
                                  refine zw_40_4 zr_206_172 ?_ ?_
                                  · intro h91
                                    refine zw_7 zr_206_185 rfl ?_
                                    refine zw_6 zr_206_186 rfl ?_
                                    refine zw_6 zr_206_188 rfl ?_
                                    refine zw_6 zr_206_190 rfl ?_
                                    refine zw_29p (A := 9801) (B := 18) zr_206_192 (by omega) (by omega) (by omega) (by omega) (by decide) ?_
                                    intro x92 hx92a hx92b
                                    refine zw_C zr_206_193 (Or.inl rfl) zm_173 rfl rfl ⟨Nat.le_of_ble_eq_true rfl, Nat.le_of_ble_eq_true rfl, Nat.le_of_ble_eq_true rfl, rfl, by decide⟩ (by omega) (th_173 (d := d - 1) (by omega) hI0 (a0 := x87) (a1 := x92)      (by omega) (by omega) ) ?_
                                    rintro _ m93 ⟨rfl, hIm93, gm93⟩
                                    have hFm93 : zFr W_206 m0 m93 := hF0.trans gm93 rfl
                                    have km93_70_822 : m93 70 822 = g0 := (gm93 70 822 rfl).trans hg0
                                    have km93_70_820 : m93 70 820 = f64 := (gm93 70 820 rfl).trans ef64
                                    have km93_70_821 : m93 70 821 = f84 := (gm93 70 821 rfl).trans ef84
                                    have fm93_70 : m93 70 = F70 := (funext fun k => gm93 70 k rfl).trans hG70
                                    show zW E (d) 206 196 [(2, 69), (0, a0), (0, a1), (1, ((0 + x36) + x68)), (9, 0), (1, ((0 + x37) + x69)), (9, 0), (1, x87), (9, 0), (1, x88), (9, 0), (1, ((0 + f64) + f84)), (9, 0), (0, ((((0 + 1) + 1) + 1) + 1)), (1, x68), (9, 0), (1, x69), (9, 0)] [] m93 Q
                                    refine zw_push zr_206_196 ?_
                                    refine zw_R zr_206_197 (by decide) zm_206 (v := (0, 1)) rfl ?_
                                    rw [← hQ]; exact ⟨_, rfl, by omega, by omega, hIm93, hFm93, by omega⟩
                                  · intro h95
                                    refine zw_7 zr_206_175 rfl ?_
                                    refine zw_5 zr_206_176 rfl ?_
                                    refine zw_6 zr_206_177 rfl ?_
                                    refine zw_C zr_206_179 (Or.inl rfl) zm_173 rfl rfl ⟨Nat.le_of_ble_eq_true rfl, Nat.le_of_ble_eq_true rfl, Nat.le_of_ble_eq_true rfl, rfl, by decide⟩ (by omega) (th_173 (d := d - 1) (by omega) hI0 (a0 := ((0 + x36) + x68)) (a1 := ((0 + x37) + x69))      (by omega) (by omega) ) ?_
                                    rintro _ m96 ⟨rfl, hIm96, gm96⟩
                                    have hFm96 : zFr W_206 m0 m96 := hF0.trans gm96 rfl
                                    have km96_70_822 : m96 70 822 = g0 := (gm96 70 822 rfl).trans hg0
                                    have km96_70_820 : m96 70 820 = f64 := (gm96 70 820 rfl).trans ef64
                                    have km96_70_821 : m96 70 821 = f84 := (gm96 70 821 rfl).trans ef84
                                    have fm96_70 : m96 70 = F70 := (funext fun k => gm96 70 k rfl).trans hG70
                                    show zW E (d) 206 182 [(2, 69), (0, a0), (0, a1), (1, ((0 + x36) + x68)), (9, 0), (1, ((0 + x37) + x69)), (9, 0), (1, x87), (9, 0), (1, x88), (9, 0), (1, ((0 + f64) + f84)), (9, 0), (0, ((((0 + 1) + 1) + 1) + 1)), (1, x68), (9, 0), (1, x69), (9, 0)] [] m96 Q
                                    refine zw_42 zr_206_182 ?_
                                    refine zw_push zr_206_196 ?_
                                    refine zw_R zr_206_197 (by decide) zm_206 (v := (0, 1)) rfl ?_
                                    rw [← hQ]; exact ⟨_, rfl, by omega, by omega, hIm96, hFm96, by omega⟩
                                · intro h98; omega
                              · intro h99; omega
                    · intro h100
                      refine zw_5 zr_206_93 rfl ?_
                      refine zw_6 zr_206_94 rfl ?_
                      refine zw_27 zr_206_96 (by omega) ?_
                      refine zw_13 (L' := [(2, 69), (0, a0), (0, a1), (1, (0 + x31)), (9, 0), (1, 0), (9, 0), (1, 0), (9, 0), (1, 1), (9, 0), (1, 0), (9, 0), (0, (0 + 1)), (1, x31), (9, 0), (1, x32), (9, 0)]) zr_206_97 (Nat.le_of_ble_eq_true rfl) rfl ?_
                      refine zw_6 zr_206_98 rfl ?_
                      refine zw_6 zr_206_100 rfl ?_
                      refine zw_27 zr_206_102 (by omega) ?_
                      refine zw_14 (L' := [(2, 69), (0, a0), (0, a1), (1, (0 + x31)), (9, 0), (1, (0 + x32)), (9, 0), (1, 0), (9, 0), (1, 1), (9, 0), (1, 0), (9, 0), (0, (0 + 1)), (1, x31), (9, 0), (1, x32), (9, 0)]) zr_206_103 (Nat.le_of_ble_eq_true rfl) rfl ?_
                      refine zw_6 zr_206_105 rfl ?_
                      refine zw_6 zr_206_107 rfl ?_
                      refine zw_29 zr_206_109 (by omega) ?_
                      refine zw_7 zr_206_110 rfl ?_
                      refine zw_46r (s := 70) zr_206_111 rfl rfl rfl rfl ?_
                      refine zw_push zr_206_114 ?_
                      refine zw_4 zr_206_117 rfl ?_
                      refine zw_16 zr_206_119 (by omega) ?_
                      obtain ⟨f101, ef101⟩ : ∃ v, m0 70 819 = v := ⟨_, rfl⟩
                      have bf101 : 1 ≤ m0 70 819 ∧ m0 70 819 ≤ 9 := ib_70_weight hI0 (by omega)
                      rw [ef101] at bf101
                      refine zw_48k (c := 70) (len := 826) zr_206_120 rfl rfl (by omega) (by omega) (show ((818 + (0 + 1)) : Int).toNat = 819 by omega) ef101 ?_
                      refine zw_36 zr_206_121 ?_
                      refine zw_6 zr_206_122 rfl ?_
                      refine zw_29h zr_206_124 ?_
                      intro x102 hx102a hx102b
                      refine zw_6 zr_206_125 rfl ?_
                      refine zw_29 zr_206_127 (by omega) ?_
                      refine zw_27 zr_206_128 (by omega) ?_
                      refine zw_14 (L' := [(2, 69), (0, a0), (0, a1), (1, (0 + x31)), (9, 0), (1, (0 + x32)), (9, 0), (1, ((0 * x32) + (x102 * 1))), (9, 0), (1, 1), (9, 0), (1, 0), (9, 0), (0, (0 + 1)), (1, x31), (9, 0), (1, x32), (9, 0)]) zr_206_129 (Nat.le_of_ble_eq_true rfl) rfl ?_
                      refine zw_6 zr_206_131 rfl ?_
                      refine zw_6 zr_206_133 rfl ?_
                      refine zw_29 zr_206_135 (by omega) ?_
                      refine zw_14 (L' := [(2, 69), (0, a0), (0, a1), (1, (0 + x31)), (9, 0), (1, (0 + x32)), (9, 0), (1, ((0 * x32) + (x102 * 1))), (9, 0), (1, (1 * x32)), (9, 0), (1, 0), (9, 0), (0, (0 + 1)), (1, x31), (9, 0), (1, x32), (9, 0)]) zr_206_136 (Nat.le_of_ble_eq_true rfl) rfl ?_
                      refine zw_6 zr_206_138 rfl ?_
                      refine zw_7 zr_206_140 rfl ?_
                      refine zw_46r (s := 70) zr_206_141 rfl rfl rfl rfl ?_
                      refine zw_push zr_206_144 ?_
                      refine zw_4 zr_206_147 rfl ?_
                      refine zw_16 zr_206_149 (by omega) ?_
                      refine zw_48k (c := 70) (len := 826) zr_206_150 rfl rfl (by omega) (by omega) (show ((818 + (0 + 1)) : Int).toNat = 819 by omega) ef101 ?_
                      refine zw_36 zr_206_151 ?_
                      refine zw_27 zr_206_152 (by omega) ?_
                      refine zw_14 (L' := [(2, 69), (0, a0), (0, a1), (1, (0 + x31)), (9, 0), (1, (0 + x32)), (9, 0), (1, ((0 * x32) + (x102 * 1))), (9, 0), (1, (1 * x32)), (9, 0), (1, (0 + f101)), (9, 0), (0, (0 + 1)), (1, x31), (9, 0), (1, x32), (9, 0)]) zr_206_153 (Nat.le_of_ble_eq_true rfl) rfl ?_
                      refine zw_15 (c := 1) (L' := [(2, 69), (0, a0), (0, a1), (1, (0 + x31)), (9, 0), (1, (0 + x32)), (9, 0), (1, ((0 * x32) + (x102 * 1))), (9, 0), (1, (1 * x32)), (9, 0), (1, (0 + f101)), (9, 0), (0, ((0 + 1) + 1)), (1, x31), (9, 0), (1, x32), (9, 0)]) zr_206_155 rfl (by decide) (by omega) rfl ?_
                      refine zw_42 zr_206_158 ?_
                      refine zw_4 zr_206_38 rfl ?_
                      refine zw_push zr_206_40 ?_
                      refine zw_41_3 zr_206_41 ?_ ?_
                      · intro h103; omega
                      · intro h104
                        refine zw_7 zr_206_44 rfl ?_
                        refine zw_46r (s := 70) zr_206_45 rfl rfl rfl rfl ?_
                        refine zw_push zr_206_48 ?_
                        refine zw_push zr_206_50 ?_
                        refine zw_3 zr_206_52 rfl ?_
                        refine zw_18 zr_206_53 (by omega) ?_
                        refine zw_16 zr_206_54 (by omega) ?_
                        refine zw_push zr_206_55 ?_
                        refine zw_4 zr_206_56 rfl ?_
                        refine zw_18 zr_206_58 (by omega) ?_
                        refine zw_16 zr_206_59 (by omega) ?_
                        refine zw_48 (c := 70) (len := 826) zr_206_60 rfl rfl (by omega) (by omega) ?_
                        intro x105 ex105
                        have bx105 := ib_70_moves hI0 (k := (((10 + (8 * a0)) + (2 * ((0 + 1) + 1)))).toNat) (by omega)
                        rw [← ex105] at bx105
                        have qx105 : x105 = F70 (((10 + (8 * a0)) + (2 * ((0 + 1) + 1)))).toNat := by rw [← hG70]; exact ex105
                        clear ex105
                        refine zw_36 zr_206_61 ?_
                        refine zw_14 (L' := [(2, 69), (0, a0), (0, a1), (1, (0 + x31)), (9, 0), (1, (0 + x32)), (9, 0), (1, ((0 * x32) + (x102 * 1))), (9, 0), (1, (1 * x32)), (9, 0), (1, (0 + f101)), (9, 0), (0, ((0 + 1) + 1)), (1, x105), (9, 0), (1, x32), (9, 0)]) zr_206_62 (Nat.le_of_ble_eq_true rfl) rfl ?_
                        refine zw_7 zr_206_64 rfl ?_
                        refine zw_46r (s := 70) zr_206_65 rfl rfl rfl rfl ?_
                        refine zw_push zr_206_68 ?_
                        refine zw_push zr_206_70 ?_
                        refine zw_3 zr_206_72 rfl ?_
                        refine zw_18 zr_206_73 (by omega) ?_
                        refine zw_16 zr_206_74 (by omega) ?_
                        refine zw_push zr_206_75 ?_
                        refine zw_4 zr_206_76 rfl ?_
                        refine zw_18 zr_206_78 (by omega) ?_
                        refine zw_16 zr_206_79 (by omega) ?_
                        refine zw_push zr_206_80 ?_
                        refine zw_16 zr_206_81 (by omega) ?_
                        refine zw_48 (c := 70) (len := 826) zr_206_82 rfl rfl (by omega) (by omega) ?_
                        intro x106 ex106
                        have bx106 := ib_70_moves hI0 (k := ((((10 + (8 * a0)) + (2 * ((0 + 1) + 1))) + 1)).toNat) (by omega)
                        rw [← ex106] at bx106
                        have qx106 : x106 = F70 ((((10 + (8 * a0)) + (2 * ((0 + 1) + 1))) + 1)).toNat := by rw [← hG70]; exact ex106
                        clear ex106
                        refine zw_36 zr_206_83 ?_
                        refine zw_14 (L' := [(2, 69), (0, a0), (0, a1), (1, (0 + x31)), (9, 0), (1, (0 + x32)), (9, 0), (1, ((0 * x32) + (x102 * 1))), (9, 0), (1, (1 * x32)), (9, 0), (1, (0 + f101)), (9, 0), (0, ((0 + 1) + 1)), (1, x105), (9, 0), (1, x106), (9, 0)]) zr_206_84 (Nat.le_of_ble_eq_true rfl) rfl ?_
                        refine zw_6 zr_206_86 rfl ?_
                        refine zw_push zr_206_88 ?_
                        refine zw_39_5 zr_206_89 zr_206_90 ?_ ?_
                        · intro h107
                          refine zw_15 (c := 1) (L' := [(2, 69), (0, a0), (0, a1), (1, (0 + x31)), (9, 0), (1, (0 + x32)), (9, 0), (1, ((0 * x32) + (x102 * 1))), (9, 0), (1, (1 * x32)), (9, 0), (1, (0 + f101)), (9, 0), (0, (((0 + 1) + 1) + 1)), (1, x105), (9, 0), (1, x106), (9, 0)]) zr_206_155 rfl (by decide) (by omega) rfl ?_
                          refine zw_42 zr_206_158 ?_
                          refine zw_4 zr_206_38 rfl ?_
                          refine zw_push zr_206_40 ?_
                          refine zw_41_3 zr_206_41 ?_ ?_
                          · intro h108; omega
                          · intro h109
                            refine zw_7 zr_206_44 rfl ?_
                            refine zw_46r (s := 70) zr_206_45 rfl rfl rfl rfl ?_
                            refine zw_push zr_206_48 ?_
                            refine zw_push zr_206_50 ?_
                            refine zw_3 zr_206_52 rfl ?_
                            refine zw_18 zr_206_53 (by omega) ?_
                            refine zw_16 zr_206_54 (by omega) ?_
                            refine zw_push zr_206_55 ?_
                            refine zw_4 zr_206_56 rfl ?_
                            refine zw_18 zr_206_58 (by omega) ?_
                            refine zw_16 zr_206_59 (by omega) ?_
                            refine zw_48 (c := 70) (len := 826) zr_206_60 rfl rfl (by omega) (by omega) ?_
                            intro x110 ex110
                            have bx110 := ib_70_moves hI0 (k := (((10 + (8 * a0)) + (2 * (((0 + 1) + 1) + 1)))).toNat) (by omega)
                            rw [← ex110] at bx110
                            have qx110 : x110 = F70 (((10 + (8 * a0)) + (2 * (((0 + 1) + 1) + 1)))).toNat := by rw [← hG70]; exact ex110
                            clear ex110
                            refine zw_36 zr_206_61 ?_
                            refine zw_14 (L' := [(2, 69), (0, a0), (0, a1), (1, (0 + x31)), (9, 0), (1, (0 + x32)), (9, 0), (1, ((0 * x32) + (x102 * 1))), (9, 0), (1, (1 * x32)), (9, 0), (1, (0 + f101)), (9, 0), (0, (((0 + 1) + 1) + 1)), (1, x110), (9, 0), (1, x106), (9, 0)]) zr_206_62 (Nat.le_of_ble_eq_true rfl) rfl ?_
                            refine zw_7 zr_206_64 rfl ?_
                            refine zw_46r (s := 70) zr_206_65 rfl rfl rfl rfl ?_
                            refine zw_push zr_206_68 ?_
                            refine zw_push zr_206_70 ?_
                            refine zw_3 zr_206_72 rfl ?_
                            refine zw_18 zr_206_73 (by omega) ?_
                            refine zw_16 zr_206_74 (by omega) ?_
                            refine zw_push zr_206_75 ?_
                            refine zw_4 zr_206_76 rfl ?_
                            refine zw_18 zr_206_78 (by omega) ?_
                            refine zw_16 zr_206_79 (by omega) ?_
                            refine zw_push zr_206_80 ?_
                            refine zw_16 zr_206_81 (by omega) ?_
                            refine zw_48 (c := 70) (len := 826) zr_206_82 rfl rfl (by omega) (by omega) ?_
                            intro x111 ex111
                            have bx111 := ib_70_moves hI0 (k := ((((10 + (8 * a0)) + (2 * (((0 + 1) + 1) + 1))) + 1)).toNat) (by omega)
                            rw [← ex111] at bx111
                            have qx111 : x111 = F70 ((((10 + (8 * a0)) + (2 * (((0 + 1) + 1) + 1))) + 1)).toNat := by rw [← hG70]; exact ex111
                            clear ex111
                            refine zw_36 zr_206_83 ?_
                            refine zw_14 (L' := [(2, 69), (0, a0), (0, a1), (1, (0 + x31)), (9, 0), (1, (0 + x32)), (9, 0), (1, ((0 * x32) + (x102 * 1))), (9, 0), (1, (1 * x32)), (9, 0), (1, (0 + f101)), (9, 0), (0, (((0 + 1) + 1) + 1)), (1, x110), (9, 0), (1, x111), (9, 0)]) zr_206_84 (Nat.le_of_ble_eq_true rfl) rfl ?_
                            refine zw_6 zr_206_86 rfl ?_
                            refine zw_push zr_206_88 ?_
                            refine zw_39_5 zr_206_89 zr_206_90 ?_ ?_
                            · intro h112
                              refine zw_15 (c := 1) (L' := [(2, 69), (0, a0), (0, a1), (1, (0 + x31)), (9, 0), (1, (0 + x32)), (9, 0), (1, ((0 * x32) + (x102 * 1))), (9, 0), (1, (1 * x32)), (9, 0), (1, (0 + f101)), (9, 0), (0, ((((0 + 1) + 1) + 1) + 1)), (1, x110), (9, 0), (1, x111), (9, 0)]) zr_206_155 rfl (by decide) (by omega) rfl ?_
                              refine zw_42 zr_206_158 ?_
                              refine zw_4 zr_206_38 rfl ?_
                              refine zw_push zr_206_40 ?_
                              refine zw_41_3 zr_206_41 ?_ ?_
                              · intro h113
                                refine zw_6 zr_206_161 rfl ?_
                                refine zw_push zr_206_163 ?_
                                refine zw_39_4 zr_206_164 zr_206_165 ?_ ?_
                                · intro h114
                                  refine zw_3 zr_206_171 rfl ?_
                                  refine zw_40_4 zr_206_172 ?_ ?_
                                  · intro h115
                                    refine zw_7 zr_206_185 rfl ?_
                                    refine zw_6 zr_206_186 rfl ?_
                                    refine zw_6 zr_206_188 rfl ?_
                                    refine zw_6 zr_206_190 rfl ?_
                                    refine zw_29p (A := 99) (B := 9) zr_206_192 (by omega) (by omega) (by omega) (by omega) (by decide) ?_
                                    intro x116 hx116a hx116b
                                    refine zw_C zr_206_193 (Or.inl rfl) zm_173 rfl rfl ⟨Nat.le_of_ble_eq_true rfl, Nat.le_of_ble_eq_true rfl, Nat.le_of_ble_eq_true rfl, rfl, by decide⟩ (by omega) (th_173 (d := d - 1) (by omega) hI0 (a0 := ((0 * x32) + (x102 * 1))) (a1 := x116)      (by omega) (by omega) ) ?_
                                    rintro _ m117 ⟨rfl, hIm117, gm117⟩
                                    have hFm117 : zFr W_206 m0 m117 := hF0.trans gm117 rfl
                                    have km117_70_822 : m117 70 822 = g0 := (gm117 70 822 rfl).trans hg0
                                    have km117_70_819 : m117 70 819 = f101 := (gm117 70 819 rfl).trans ef101
                                    have fm117_70 : m117 70 = F70 := (funext fun k => gm117 70 k rfl).trans hG70
                                    show zW E (d) 206 196 [(2, 69), (0, a0), (0, a1), (1, (0 + x31)), (9, 0), (1, (0 + x32)), (9, 0), (1, ((0 * x32) + (x102 * 1))), (9, 0), (1, (1 * x32)), (9, 0), (1, (0 + f101)), (9, 0), (0, ((((0 + 1) + 1) + 1) + 1)), (1, x110), (9, 0), (1, x111), (9, 0)] [] m117 Q
                                    refine zw_push zr_206_196 ?_
                                    refine zw_R zr_206_197 (by decide) zm_206 (v := (0, 1)) rfl ?_
                                    rw [← hQ]; exact ⟨_, rfl, by omega, by omega, hIm117, hFm117, by omega⟩
                                  · intro h119
                                    refine zw_7 zr_206_175 rfl ?_
                                    refine zw_5 zr_206_176 rfl ?_
                                    refine zw_6 zr_206_177 rfl ?_
                                    refine zw_C zr_206_179 (Or.inl rfl) zm_173 rfl rfl ⟨Nat.le_of_ble_eq_true rfl, Nat.le_of_ble_eq_true rfl, Nat.le_of_ble_eq_true rfl, rfl, by decide⟩ (by omega) (th_173 (d := d - 1) (by omega) hI0 (a0 := (0 + x31)) (a1 := (0 + x32))      (by omega) (by omega) ) ?_
                                    rintro _ m120 ⟨rfl, hIm120, gm120⟩
                                    have hFm120 : zFr W_206 m0 m120 := hF0.trans gm120 rfl
                                    have km120_70_822 : m120 70 822 = g0 := (gm120 70 822 rfl).trans hg0
                                    have km120_70_819 : m120 70 819 = f101 := (gm120 70 819 rfl).trans ef101
                                    have fm120_70 : m120 70 = F70 := (funext fun k => gm120 70 k rfl).trans hG70
                                    show zW E (d) 206 182 [(2, 69), (0, a0), (0, a1), (1, (0 + x31)), (9, 0), (1, (0 + x32)), (9, 0), (1, ((0 * x32) + (x102 * 1))), (9, 0), (1, (1 * x32)), (9, 0), (1, (0 + f101)), (9, 0), (0, ((((0 + 1) + 1) + 1) + 1)), (1, x110), (9, 0), (1, x111), (9, 0)] [] m120 Q
                                    refine zw_42 zr_206_182 ?_
                                    refine zw_push zr_206_196 ?_
                                    refine zw_R zr_206_197 (by decide) zm_206 (v := (0, 1)) rfl ?_
                                    rw [← hQ]; exact ⟨_, rfl, by omega, by omega, hIm120, hFm120, by omega⟩
                                · intro h122; omega
                              · intro h123; omega
                            · intro h124
                              refine zw_5 zr_206_93 rfl ?_
                              refine zw_6 zr_206_94 rfl ?_
                              refine zw_27 zr_206_96 (by omega) ?_
                              refine zw_13 (L' := [(2, 69), (0, a0), (0, a1), (1, ((0 + x31) + x110)), (9, 0), (1, (0 + x32)), (9, 0), (1, ((0 * x32) + (x102 * 1))), (9, 0), (1, (1 * x32)), (9, 0), (1, (0 + f101)), (9, 0), (0, (((0 + 1) + 1) + 1)), (1, x110), (9, 0), (1, x111), (9, 0)]) zr_206_97 (Nat.le_of_ble_eq_true rfl) rfl ?_
                              refine zw_6 zr_206_98 rfl ?_
                              refine zw_6 zr_206_100 rfl ?_
                              refine zw_27 zr_206_102 (by omega) ?_
                              refine zw_14 (L' := [(2, 69), (0, a0), (0, a1), (1, ((0 + x31) + x110)), (9, 0), (1, ((0 + x32) + x111)), (9, 0), (1, ((0 * x32) + (x102 * 1))), (9, 0), (1, (1 * x32)), (9, 0), (1, (0 + f101)), (9, 0), (0, (((0 + 1) + 1) + 1)), (1, x110), (9, 0), (1, x111), (9, 0)]) zr_206_103 (Nat.le_of_ble_eq_true rfl) rfl ?_
                              refine zw_6 zr_206_105 rfl ?_
                              refine zw_6 zr_206_107 rfl ?_
                              refine zw_29h zr_206_109 ?_
                              intro x125 hx125a hx125b
                              refine zw_7 zr_206_110 rfl ?_
                              refine zw_46r (s := 70) zr_206_111 rfl rfl rfl rfl ?_
                              refine zw_push zr_206_114 ?_
                              refine zw_4 zr_206_117 rfl ?_
                              refine zw_16 zr_206_119 (by omega) ?_
                              obtain ⟨f126, ef126⟩ : ∃ v, m0 70 821 = v := ⟨_, rfl⟩
                              have bf126 : 1 ≤ m0 70 821 ∧ m0 70 821 ≤ 9 := ib_70_weight hI0 (by omega)
                              rw [ef126] at bf126
                              refine zw_48k (c := 70) (len := 826) zr_206_120 rfl rfl (by omega) (by omega) (show ((818 + (((0 + 1) + 1) + 1)) : Int).toNat = 821 by omega) ef126 ?_
                              refine zw_36 zr_206_121 ?_
                              refine zw_6 zr_206_122 rfl ?_
                              refine zw_29h zr_206_124 ?_
                              intro x127 hx127a hx127b
                              refine zw_6 zr_206_125 rfl ?_
                              refine zw_29h zr_206_127 ?_
                              intro x128 hx128a hx128b
                              refine zw_27h zr_206_128 ?_
                              intro x129 hx129a hx129b
                              refine zw_14 (L' := [(2, 69), (0, a0), (0, a1), (1, ((0 + x31) + x110)), (9, 0), (1, ((0 + x32) + x111)), (9, 0), (1, x129), (9, 0), (1, (1 * x32)), (9, 0), (1, (0 + f101)), (9, 0), (0, (((0 + 1) + 1) + 1)), (1, x110), (9, 0), (1, x111), (9, 0)]) zr_206_129 (Nat.le_of_ble_eq_true rfl) rfl ?_
                              refine zw_6 zr_206_131 rfl ?_
                              refine zw_6 zr_206_133 rfl ?_
                              refine zw_29p (A := 99) (B := 99) zr_206_135 (by omega) (by omega) (by omega) (by omega) (by decide) ?_
                              intro x130 hx130a hx130b
                              refine zw_14 (L' := [(2, 69), (0, a0), (0, a1), (1, ((0 + x31) + x110)), (9, 0), (1, ((0 + x32) + x111)), (9, 0), (1, x129), (9, 0), (1, x130), (9, 0), (1, (0 + f101)), (9, 0), (0, (((0 + 1) + 1) + 1)), (1, x110), (9, 0), (1, x111), (9, 0)]) zr_206_136 (Nat.le_of_ble_eq_true rfl) rfl ?_
                              refine zw_6 zr_206_138 rfl ?_
                              refine zw_7 zr_206_140 rfl ?_
                              refine zw_46r (s := 70) zr_206_141 rfl rfl rfl rfl ?_
                              refine zw_push zr_206_144 ?_
                              refine zw_4 zr_206_147 rfl ?_
                              refine zw_16 zr_206_149 (by omega) ?_
                              refine zw_48k (c := 70) (len := 826) zr_206_150 rfl rfl (by omega) (by omega) (show ((818 + (((0 + 1) + 1) + 1)) : Int).toNat = 821 by omega) ef126 ?_
                              refine zw_36 zr_206_151 ?_
                              refine zw_27 zr_206_152 (by omega) ?_
                              refine zw_14 (L' := [(2, 69), (0, a0), (0, a1), (1, ((0 + x31) + x110)), (9, 0), (1, ((0 + x32) + x111)), (9, 0), (1, x129), (9, 0), (1, x130), (9, 0), (1, ((0 + f101) + f126)), (9, 0), (0, (((0 + 1) + 1) + 1)), (1, x110), (9, 0), (1, x111), (9, 0)]) zr_206_153 (Nat.le_of_ble_eq_true rfl) rfl ?_
                              refine zw_15 (c := 1) (L' := [(2, 69), (0, a0), (0, a1), (1, ((0 + x31) + x110)), (9, 0), (1, ((0 + x32) + x111)), (9, 0), (1, x129), (9, 0), (1, x130), (9, 0), (1, ((0 + f101) + f126)), (9, 0), (0, ((((0 + 1) + 1) + 1) + 1)), (1, x110), (9, 0), (1, x111), (9, 0)]) zr_206_155 rfl (by decide) (by omega) rfl ?_
                              refine zw_42 zr_206_158 ?_
                              refine zw_4 zr_206_38 rfl ?_
                              refine zw_push zr_206_40 ?_
                              refine zw_41_3 zr_206_41 ?_ ?_
                              · intro h131
                                refine zw_6 zr_206_161 rfl ?_
                                refine zw_push zr_206_163 ?_
                                refine zw_39_4 zr_206_164 zr_206_165 ?_ ?_
                                · intro h132
                                  refine zw_3 zr_206_171 rfl ?_
                                  refine zw_40_4 zr_206_172 ?_ ?_
                                  · intro h133
                                    refine zw_7 zr_206_185 rfl ?_
                                    refine zw_6 zr_206_186 rfl ?_
                                    refine zw_6 zr_206_188 rfl ?_
                                    refine zw_6 zr_206_190 rfl ?_
                                    refine zw_29p (A := 9801) (B := 18) zr_206_192 (by omega) (by omega) (by omega) (by omega) (by decide) ?_
                                    intro x134 hx134a hx134b
                                    refine zw_C zr_206_193 (Or.inl rfl) zm_173 rfl rfl ⟨Nat.le_of_ble_eq_true rfl, Nat.le_of_ble_eq_true rfl, Nat.le_of_ble_eq_true rfl, rfl, by decide⟩ (by omega) (th_173 (d := d - 1) (by omega) hI0 (a0 := x129) (a1 := x134)      (by omega) (by omega) ) ?_
                                    rintro _ m135 ⟨rfl, hIm135, gm135⟩
                                    have hFm135 : zFr W_206 m0 m135 := hF0.trans gm135 rfl
                                    have km135_70_822 : m135 70 822 = g0 := (gm135 70 822 rfl).trans hg0
                                    have km135_70_819 : m135 70 819 = f101 := (gm135 70 819 rfl).trans ef101
                                    have km135_70_821 : m135 70 821 = f126 := (gm135 70 821 rfl).trans ef126
                                    have fm135_70 : m135 70 = F70 := (funext fun k => gm135 70 k rfl).trans hG70
                                    show zW E (d) 206 196 [(2, 69), (0, a0), (0, a1), (1, ((0 + x31) + x110)), (9, 0), (1, ((0 + x32) + x111)), (9, 0), (1, x129), (9, 0), (1, x130), (9, 0), (1, ((0 + f101) + f126)), (9, 0), (0, ((((0 + 1) + 1) + 1) + 1)), (1, x110), (9, 0), (1, x111), (9, 0)] [] m135 Q
                                    refine zw_push zr_206_196 ?_
                                    refine zw_R zr_206_197 (by decide) zm_206 (v := (0, 1)) rfl ?_
                                    rw [← hQ]; exact ⟨_, rfl, by omega, by omega, hIm135, hFm135, by omega⟩
                                  · intro h137
                                    refine zw_7 zr_206_175 rfl ?_
                                    refine zw_5 zr_206_176 rfl ?_
                                    refine zw_6 zr_206_177 rfl ?_
                                    refine zw_C zr_206_179 (Or.inl rfl) zm_173 rfl rfl ⟨Nat.le_of_ble_eq_true rfl, Nat.le_of_ble_eq_true rfl, Nat.le_of_ble_eq_true rfl, rfl, by decide⟩ (by omega) (th_173 (d := d - 1) (by omega) hI0 (a0 := ((0 + x31) + x110)) (a1 := ((0 + x32) + x111))      (by omega) (by omega) ) ?_
                                    rintro _ m138 ⟨rfl, hIm138, gm138⟩
                                    have hFm138 : zFr W_206 m0 m138 := hF0.trans gm138 rfl
                                    have km138_70_822 : m138 70 822 = g0 := (gm138 70 822 rfl).trans hg0
                                    have km138_70_819 : m138 70 819 = f101 := (gm138 70 819 rfl).trans ef101
                                    have km138_70_821 : m138 70 821 = f126 := (gm138 70 821 rfl).trans ef126
                                    have fm138_70 : m138 70 = F70 := (funext fun k => gm138 70 k rfl).trans hG70
                                    show zW E (d) 206 182 [(2, 69), (0, a0), (0, a1), (1, ((0 + x31) + x110)), (9, 0), (1, ((0 + x32) + x111)), (9, 0), (1, x129), (9, 0), (1, x130), (9, 0), (1, ((0 + f101) + f126)), (9, 0), (0, ((((0 + 1) + 1) + 1) + 1)), (1, x110), (9, 0), (1, x111), (9, 0)] [] m138 Q
                                    refine zw_42 zr_206_182 ?_
                                    refine zw_push zr_206_196 ?_
                                    refine zw_R zr_206_197 (by decide) zm_206 (v := (0, 1)) rfl ?_
                                    rw [← hQ]; exact ⟨_, rfl, by omega, by omega, hIm138, hFm138, by omega⟩
                                · intro h140; omega
                              · intro h141; omega
                        · intro h142
                          refine zw_5 zr_206_93 rfl ?_
                          refine zw_6 zr_206_94 rfl ?_
                          refine zw_27 zr_206_96 (by omega) ?_
                          refine zw_13 (L' := [(2, 69), (0, a0), (0, a1), (1, ((0 + x31) + x105)), (9, 0), (1, (0 + x32)), (9, 0), (1, ((0 * x32) + (x102 * 1))), (9, 0), (1, (1 * x32)), (9, 0), (1, (0 + f101)), (9, 0), (0, ((0 + 1) + 1)), (1, x105), (9, 0), (1, x106), (9, 0)]) zr_206_97 (Nat.le_of_ble_eq_true rfl) rfl ?_
                          refine zw_6 zr_206_98 rfl ?_
                          refine zw_6 zr_206_100 rfl ?_
                          refine zw_27 zr_206_102 (by omega) ?_
                          refine zw_14 (L' := [(2, 69), (0, a0), (0, a1), (1, ((0 + x31) + x105)), (9, 0), (1, ((0 + x32) + x106)), (9, 0), (1, ((0 * x32) + (x102 * 1))), (9, 0), (1, (1 * x32)), (9, 0), (1, (0 + f101)), (9, 0), (0, ((0 + 1) + 1)), (1, x105), (9, 0), (1, x106), (9, 0)]) zr_206_103 (Nat.le_of_ble_eq_true rfl) rfl ?_
                          refine zw_6 zr_206_105 rfl ?_
                          refine zw_6 zr_206_107 rfl ?_
                          refine zw_29h zr_206_109 ?_
                          intro x143 hx143a hx143b
                          refine zw_7 zr_206_110 rfl ?_
                          refine zw_46r (s := 70) zr_206_111 rfl rfl rfl rfl ?_
                          refine zw_push zr_206_114 ?_
                          refine zw_4 zr_206_117 rfl ?_
                          refine zw_16 zr_206_119 (by omega) ?_
                          obtain ⟨f144, ef144⟩ : ∃ v, m0 70 820 = v := ⟨_, rfl⟩
                          have bf144 : 1 ≤ m0 70 820 ∧ m0 70 820 ≤ 9 := ib_70_weight hI0 (by omega)
                          rw [ef144] at bf144
                          refine zw_48k (c := 70) (len := 826) zr_206_120 rfl rfl (by omega) (by omega) (show ((818 + ((0 + 1) + 1)) : Int).toNat = 820 by omega) ef144 ?_
                          refine zw_36 zr_206_121 ?_
                          refine zw_6 zr_206_122 rfl ?_
                          refine zw_29h zr_206_124 ?_
                          intro x145 hx145a hx145b
                          refine zw_6 zr_206_125 rfl ?_
                          refine zw_29h zr_206_127 ?_
                          intro x146 hx146a hx146b
                          refine zw_27h zr_206_128 ?_
                          intro x147 hx147a hx147b
                          refine zw_14 (L' := [(2, 69), (0, a0), (0, a1), (1, ((0 + x31) + x105)), (9, 0), (1, ((0 + x32) + x106)), (9, 0), (1, x147), (9, 0), (1, (1 * x32)), (9, 0), (1, (0 + f101)), (9, 0), (0, ((0 + 1) + 1)), (1, x105), (9, 0), (1, x106), (9, 0)]) zr_206_129 (Nat.le_of_ble_eq_true rfl) rfl ?_
                          refine zw_6 zr_206_131 rfl ?_
                          refine zw_6 zr_206_133 rfl ?_
                          refine zw_29p (A := 99) (B := 99) zr_206_135 (by omega) (by omega) (by omega) (by omega) (by decide) ?_
                          intro x148 hx148a hx148b
                          refine zw_14 (L' := [(2, 69), (0, a0), (0, a1), (1, ((0 + x31) + x105)), (9, 0), (1, ((0 + x32) + x106)), (9, 0), (1, x147), (9, 0), (1, x148), (9, 0), (1, (0 + f101)), (9, 0), (0, ((0 + 1) + 1)), (1, x105), (9, 0), (1, x106), (9, 0)]) zr_206_136 (Nat.le_of_ble_eq_true rfl) rfl ?_
                          refine zw_6 zr_206_138 rfl ?_
                          refine zw_7 zr_206_140 rfl ?_
                          refine zw_46r (s := 70) zr_206_141 rfl rfl rfl rfl ?_
                          refine zw_push zr_206_144 ?_
                          refine zw_4 zr_206_147 rfl ?_
                          refine zw_16 zr_206_149 (by omega) ?_
                          refine zw_48k (c := 70) (len := 826) zr_206_150 rfl rfl (by omega) (by omega) (show ((818 + ((0 + 1) + 1)) : Int).toNat = 820 by omega) ef144 ?_
                          refine zw_36 zr_206_151 ?_
                          refine zw_27 zr_206_152 (by omega) ?_
                          refine zw_14 (L' := [(2, 69), (0, a0), (0, a1), (1, ((0 + x31) + x105)), (9, 0), (1, ((0 + x32) + x106)), (9, 0), (1, x147), (9, 0), (1, x148), (9, 0), (1, ((0 + f101) + f144)), (9, 0), (0, ((0 + 1) + 1)), (1, x105), (9, 0), (1, x106), (9, 0)]) zr_206_153 (Nat.le_of_ble_eq_true rfl) rfl ?_
                          refine zw_15 (c := 1) (L' := [(2, 69), (0, a0), (0, a1), (1, ((0 + x31) + x105)), (9, 0), (1, ((0 + x32) + x106)), (9, 0), (1, x147), (9, 0), (1, x148), (9, 0), (1, ((0 + f101) + f144)), (9, 0), (0, (((0 + 1) + 1) + 1)), (1, x105), (9, 0), (1, x106), (9, 0)]) zr_206_155 rfl (by decide) (by omega) rfl ?_
                          refine zw_42 zr_206_158 ?_
                          refine zw_4 zr_206_38 rfl ?_
                          refine zw_push zr_206_40 ?_
                          refine zw_41_3 zr_206_41 ?_ ?_
                          · intro h149; omega
                          · intro h150
                            refine zw_7 zr_206_44 rfl ?_
                            refine zw_46r (s := 70) zr_206_45 rfl rfl rfl rfl ?_
                            refine zw_push zr_206_48 ?_
                            refine zw_push zr_206_50 ?_
                            refine zw_3 zr_206_52 rfl ?_
                            refine zw_18 zr_206_53 (by omega) ?_
                            refine zw_16 zr_206_54 (by omega) ?_
                            refine zw_push zr_206_55 ?_
                            refine zw_4 zr_206_56 rfl ?_
                            refine zw_18 zr_206_58 (by omega) ?_
                            refine zw_16 zr_206_59 (by omega) ?_
                            refine zw_48 (c := 70) (len := 826) zr_206_60 rfl rfl (by omega) (by omega) ?_
                            intro x151 ex151
                            have bx151 := ib_70_moves hI0 (k := (((10 + (8 * a0)) + (2 * (((0 + 1) + 1) + 1)))).toNat) (by omega)
                            rw [← ex151] at bx151
                            have qx151 : x151 = F70 (((10 + (8 * a0)) + (2 * (((0 + 1) + 1) + 1)))).toNat := by rw [← hG70]; exact ex151
                            clear ex151
                            refine zw_36 zr_206_61 ?_
                            refine zw_14 (L' := [(2, 69), (0, a0), (0, a1), (1, ((0 + x31) + x105)), (9, 0), (1, ((0 + x32) + x106)), (9, 0), (1, x147), (9, 0), (1, x148), (9, 0), (1, ((0 + f101) + f144)), (9, 0), (0, (((0 + 1) + 1) + 1)), (1, x151), (9, 0), (1, x106), (9, 0)]) zr_206_62 (Nat.le_of_ble_eq_true rfl) rfl ?_
                            refine zw_7 zr_206_64 rfl ?_
                            refine zw_46r (s := 70) zr_206_65 rfl rfl rfl rfl ?_
                            refine zw_push zr_206_68 ?_
                            refine zw_push zr_206_70 ?_
                            refine zw_3 zr_206_72 rfl ?_
                            refine zw_18 zr_206_73 (by omega) ?_
                            refine zw_16 zr_206_74 (by omega) ?_
                            refine zw_push zr_206_75 ?_
                            refine zw_4 zr_206_76 rfl ?_
                            refine zw_18 zr_206_78 (by omega) ?_
                            refine zw_16 zr_206_79 (by omega) ?_
                            refine zw_push zr_206_80 ?_
                            refine zw_16 zr_206_81 (by omega) ?_
                            refine zw_48 (c := 70) (len := 826) zr_206_82 rfl rfl (by omega) (by omega) ?_
                            intro x152 ex152
                            have bx152 := ib_70_moves hI0 (k := ((((10 + (8 * a0)) + (2 * (((0 + 1) + 1) + 1))) + 1)).toNat) (by omega)
                            rw [← ex152] at bx152
                            have qx152 : x152 = F70 ((((10 + (8 * a0)) + (2 * (((0 + 1) + 1) + 1))) + 1)).toNat := by rw [← hG70]; exact ex152
                            clear ex152
                            refine zw_36 zr_206_83 ?_
                            refine zw_14 (L' := [(2, 69), (0, a0), (0, a1), (1, ((0 + x31) + x105)), (9, 0), (1, ((0 + x32) + x106)), (9, 0), (1, x147), (9, 0), (1, x148), (9, 0), (1, ((0 + f101) + f144)), (9, 0), (0, (((0 + 1) + 1) + 1)), (1, x151), (9, 0), (1, x152), (9, 0)]) zr_206_84 (Nat.le_of_ble_eq_true rfl) rfl ?_
                            refine zw_6 zr_206_86 rfl ?_
                            refine zw_push zr_206_88 ?_
                            refine zw_39_5 zr_206_89 zr_206_90 ?_ ?_
                            · intro h153
                              refine zw_15 (c := 1) (L' := [(2, 69), (0, a0), (0, a1), (1, ((0 + x31) + x105)), (9, 0), (1, ((0 + x32) + x106)), (9, 0), (1, x147), (9, 0), (1, x148), (9, 0), (1, ((0 + f101) + f144)), (9, 0), (0, ((((0 + 1) + 1) + 1) + 1)), (1, x151), (9, 0), (1, x152), (9, 0)]) zr_206_155 rfl (by decide) (by omega) rfl ?_
                              refine zw_42 zr_206_158 ?_
                              refine zw_4 zr_206_38 rfl ?_
                              refine zw_push zr_206_40 ?_
                              refine zw_41_3 zr_206_41 ?_ ?_
                              · intro h154
                                refine zw_6 zr_206_161 rfl ?_
                                refine zw_push zr_206_163 ?_
                                refine zw_39_4 zr_206_164 zr_206_165 ?_ ?_
                                · intro h155
                                  refine zw_3 zr_206_171 rfl ?_
                                  refine zw_40_4 zr_206_172 ?_ ?_
                                  · intro h156
                                    refine zw_7 zr_206_185 rfl ?_
                                    refine zw_6 zr_206_186 rfl ?_
                                    refine zw_6 zr_206_188 rfl ?_
                                    refine zw_6 zr_206_190 rfl ?_
                                    refine zw_29p (A := 9801) (B := 18) zr_206_192 (by omega) (by omega) (by omega) (by omega) (by decide) ?_
                                    intro x157 hx157a hx157b
                                    refine zw_C zr_206_193 (Or.inl rfl) zm_173 rfl rfl ⟨Nat.le_of_ble_eq_true rfl, Nat.le_of_ble_eq_true rfl, Nat.le_of_ble_eq_true rfl, rfl, by decide⟩ (by omega) (th_173 (d := d - 1) (by omega) hI0 (a0 := x147) (a1 := x157)      (by omega) (by omega) ) ?_
                                    rintro _ m158 ⟨rfl, hIm158, gm158⟩
                                    have hFm158 : zFr W_206 m0 m158 := hF0.trans gm158 rfl
                                    have km158_70_822 : m158 70 822 = g0 := (gm158 70 822 rfl).trans hg0
                                    have km158_70_819 : m158 70 819 = f101 := (gm158 70 819 rfl).trans ef101
                                    have km158_70_820 : m158 70 820 = f144 := (gm158 70 820 rfl).trans ef144
                                    have fm158_70 : m158 70 = F70 := (funext fun k => gm158 70 k rfl).trans hG70
                                    show zW E (d) 206 196 [(2, 69), (0, a0), (0, a1), (1, ((0 + x31) + x105)), (9, 0), (1, ((0 + x32) + x106)), (9, 0), (1, x147), (9, 0), (1, x148), (9, 0), (1, ((0 + f101) + f144)), (9, 0), (0, ((((0 + 1) + 1) + 1) + 1)), (1, x151), (9, 0), (1, x152), (9, 0)] [] m158 Q
                                    refine zw_push zr_206_196 ?_
                                    refine zw_R zr_206_197 (by decide) zm_206 (v := (0, 1)) rfl ?_
                                    rw [← hQ]; exact ⟨_, rfl, by omega, by omega, hIm158, hFm158, by omega⟩
                                  · intro h160
                                    refine zw_7 zr_206_175 rfl ?_
                                    refine zw_5 zr_206_176 rfl ?_
                                    refine zw_6 zr_206_177 rfl ?_
                                    refine zw_C zr_206_179 (Or.inl rfl) zm_173 rfl rfl ⟨Nat.le_of_ble_eq_true rfl, Nat.le_of_ble_eq_true rfl, Nat.le_of_ble_eq_true rfl, rfl, by decide⟩ (by omega) (th_173 (d := d - 1) (by omega) hI0 (a0 := ((0 + x31) + x105)) (a1 := ((0 + x32) + x106))      (by omega) (by omega) ) ?_
                                    rintro _ m161 ⟨rfl, hIm161, gm161⟩
                                    have hFm161 : zFr W_206 m0 m161 := hF0.trans gm161 rfl
                                    have km161_70_822 : m161 70 822 = g0 := (gm161 70 822 rfl).trans hg0
                                    have km161_70_819 : m161 70 819 = f101 := (gm161 70 819 rfl).trans ef101
                                    have km161_70_820 : m161 70 820 = f144 := (gm161 70 820 rfl).trans ef144
                                    have fm161_70 : m161 70 = F70 := (funext fun k => gm161 70 k rfl).trans hG70
                                    show zW E (d) 206 182 [(2, 69), (0, a0), (0, a1), (1, ((0 + x31) + x105)), (9, 0), (1, ((0 + x32) + x106)), (9, 0), (1, x147), (9, 0), (1, x148), (9, 0), (1, ((0 + f101) + f144)), (9, 0), (0, ((((0 + 1) + 1) + 1) + 1)), (1, x151), (9, 0), (1, x152), (9, 0)] [] m161 Q
                                    refine zw_42 zr_206_182 ?_
                                    refine zw_push zr_206_196 ?_
                                    refine zw_R zr_206_197 (by decide) zm_206 (v := (0, 1)) rfl ?_
                                    rw [← hQ]; exact ⟨_, rfl, by omega, by omega, hIm161, hFm161, by omega⟩
                                · intro h163; omega
                              · intro h164; omega
                            · intro h165
                              refine zw_5 zr_206_93 rfl ?_
                              refine zw_6 zr_206_94 rfl ?_
                              refine zw_27 zr_206_96 (by omega) ?_
                              refine zw_13 (L' := [(2, 69), (0, a0), (0, a1), (1, (((0 + x31) + x105) + x151)), (9, 0), (1, ((0 + x32) + x106)), (9, 0), (1, x147), (9, 0), (1, x148), (9, 0), (1, ((0 + f101) + f144)), (9, 0), (0, (((0 + 1) + 1) + 1)), (1, x151), (9, 0), (1, x152), (9, 0)]) zr_206_97 (Nat.le_of_ble_eq_true rfl) rfl ?_
                              refine zw_6 zr_206_98 rfl ?_
                              refine zw_6 zr_206_100 rfl ?_
                              refine zw_27 zr_206_102 (by omega) ?_
                              refine zw_14 (L' := [(2, 69), (0, a0), (0, a1), (1, (((0 + x31) + x105) + x151)), (9, 0), (1, (((0 + x32) + x106) + x152)), (9, 0), (1, x147), (9, 0), (1, x148), (9, 0), (1, ((0 + f101) + f144)), (9, 0), (0, (((0 + 1) + 1) + 1)), (1, x151), (9, 0), (1, x152), (9, 0)]) zr_206_103 (Nat.le_of_ble_eq_true rfl) rfl ?_
                              refine zw_6 zr_206_105 rfl ?_
                              refine zw_6 zr_206_107 rfl ?_
                              refine zw_29h zr_206_109 ?_
                              intro x166 hx166a hx166b
                              refine zw_7 zr_206_110 rfl ?_
                              refine zw_46r (s := 70) zr_206_111 rfl rfl rfl rfl ?_
                              refine zw_push zr_206_114 ?_
                              refine zw_4 zr_206_117 rfl ?_
                              refine zw_16 zr_206_119 (by omega) ?_
                              obtain ⟨f167, ef167⟩ : ∃ v, m0 70 821 = v := ⟨_, rfl⟩
                              have bf167 : 1 ≤ m0 70 821 ∧ m0 70 821 ≤ 9 := ib_70_weight hI0 (by omega)
                              rw [ef167] at bf167
                              refine zw_48k (c := 70) (len := 826) zr_206_120 rfl rfl (by omega) (by omega) (show ((818 + (((0 + 1) + 1) + 1)) : Int).toNat = 821 by omega) ef167 ?_
                              refine zw_36 zr_206_121 ?_
                              refine zw_6 zr_206_122 rfl ?_
                              refine zw_29h zr_206_124 ?_
                              intro x168 hx168a hx168b
                              refine zw_6 zr_206_125 rfl ?_
                              refine zw_29h zr_206_127 ?_
                              intro x169 hx169a hx169b
                              refine zw_27h zr_206_128 ?_
                              intro x170 hx170a hx170b
                              refine zw_14 (L' := [(2, 69), (0, a0), (0, a1), (1, (((0 + x31) + x105) + x151)), (9, 0), (1, (((0 + x32) + x106) + x152)), (9, 0), (1, x170), (9, 0), (1, x148), (9, 0), (1, ((0 + f101) + f144)), (9, 0), (0, (((0 + 1) + 1) + 1)), (1, x151), (9, 0), (1, x152), (9, 0)]) zr_206_129 (Nat.le_of_ble_eq_true rfl) rfl ?_
                              refine zw_6 zr_206_131 rfl ?_
                              refine zw_6 zr_206_133 rfl ?_
                              refine zw_29p (A := 9801) (B := 99) zr_206_135 (by omega) (by omega) (by omega) (by omega) (by decide) ?_
                              intro x171 hx171a hx171b
                              refine zw_14 (L' := [(2, 69), (0, a0), (0, a1), (1, (((0 + x31) + x105) + x151)), (9, 0), (1, (((0 + x32) + x106) + x152)), (9, 0), (1, x170), (9, 0), (1, x171), (9, 0), (1, ((0 + f101) + f144)), (9, 0), (0, (((0 + 1) + 1) + 1)), (1, x151), (9, 0), (1, x152), (9, 0)]) zr_206_136 (Nat.le_of_ble_eq_true rfl) rfl ?_
                              refine zw_6 zr_206_138 rfl ?_
                              refine zw_7 zr_206_140 rfl ?_
                              refine zw_46r (s := 70) zr_206_141 rfl rfl rfl rfl ?_
                              refine zw_push zr_206_144 ?_
                              refine zw_4 zr_206_147 rfl ?_
                              refine zw_16 zr_206_149 (by omega) ?_
                              refine zw_48k (c := 70) (len := 826) zr_206_150 rfl rfl (by omega) (by omega) (show ((818 + (((0 + 1) + 1) + 1)) : Int).toNat = 821 by omega) ef167 ?_
                              refine zw_36 zr_206_151 ?_
                              refine zw_27 zr_206_152 (by omega) ?_
                              refine zw_14 (L' := [(2, 69), (0, a0), (0, a1), (1, (((0 + x31) + x105) + x151)), (9, 0), (1, (((0 + x32) + x106) + x152)), (9, 0), (1, x170), (9, 0), (1, x171), (9, 0), (1, (((0 + f101) + f144) + f167)), (9, 0), (0, (((0 + 1) + 1) + 1)), (1, x151), (9, 0), (1, x152), (9, 0)]) zr_206_153 (Nat.le_of_ble_eq_true rfl) rfl ?_
                              refine zw_15 (c := 1) (L' := [(2, 69), (0, a0), (0, a1), (1, (((0 + x31) + x105) + x151)), (9, 0), (1, (((0 + x32) + x106) + x152)), (9, 0), (1, x170), (9, 0), (1, x171), (9, 0), (1, (((0 + f101) + f144) + f167)), (9, 0), (0, ((((0 + 1) + 1) + 1) + 1)), (1, x151), (9, 0), (1, x152), (9, 0)]) zr_206_155 rfl (by decide) (by omega) rfl ?_
                              refine zw_42 zr_206_158 ?_
                              refine zw_4 zr_206_38 rfl ?_
                              refine zw_push zr_206_40 ?_
                              refine zw_41_3 zr_206_41 ?_ ?_
                              · intro h172
                                refine zw_6 zr_206_161 rfl ?_
                                refine zw_push zr_206_163 ?_
                                refine zw_39_4 zr_206_164 zr_206_165 ?_ ?_
                                · intro h173
                                  refine zw_3 zr_206_171 rfl ?_
                                  refine zw_40_4 zr_206_172 ?_ ?_
                                  · intro h174
                                    refine zw_7 zr_206_185 rfl ?_
                                    refine zw_6 zr_206_186 rfl ?_
                                    refine zw_6 zr_206_188 rfl ?_
                                    refine zw_6 zr_206_190 rfl ?_
                                    refine zw_29p (A := 970299) (B := 27) zr_206_192 (by omega) (by omega) (by omega) (by omega) (by decide) ?_
                                    intro x175 hx175a hx175b
                                    refine zw_C zr_206_193 (Or.inl rfl) zm_173 rfl rfl ⟨Nat.le_of_ble_eq_true rfl, Nat.le_of_ble_eq_true rfl, Nat.le_of_ble_eq_true rfl, rfl, by decide⟩ (by omega) (th_173 (d := d - 1) (by omega) hI0 (a0 := x170) (a1 := x175)      (by omega) (by omega) ) ?_
                                    rintro _ m176 ⟨rfl, hIm176, gm176⟩
                                    have hFm176 : zFr W_206 m0 m176 := hF0.trans gm176 rfl
                                    have km176_70_822 : m176 70 822 = g0 := (gm176 70 822 rfl).trans hg0
                                    have km176_70_819 : m176 70 819 = f101 := (gm176 70 819 rfl).trans ef101
                                    have km176_70_820 : m176 70 820 = f144 := (gm176 70 820 rfl).trans ef144
                                    have km176_70_821 : m176 70 821 = f167 := (gm176 70 821 rfl).trans ef167
                                    have fm176_70 : m176 70 = F70 := (funext fun k => gm176 70 k rfl).trans hG70
                                    show zW E (d) 206 196 [(2, 69), (0, a0), (0, a1), (1, (((0 + x31) + x105) + x151)), (9, 0), (1, (((0 + x32) + x106) + x152)), (9, 0), (1, x170), (9, 0), (1, x171), (9, 0), (1, (((0 + f101) + f144) + f167)), (9, 0), (0, ((((0 + 1) + 1) + 1) + 1)), (1, x151), (9, 0), (1, x152), (9, 0)] [] m176 Q
                                    refine zw_push zr_206_196 ?_
                                    refine zw_R zr_206_197 (by decide) zm_206 (v := (0, 1)) rfl ?_
                                    rw [← hQ]; exact ⟨_, rfl, by omega, by omega, hIm176, hFm176, by omega⟩
                                  · intro h178
                                    refine zw_7 zr_206_175 rfl ?_
                                    refine zw_5 zr_206_176 rfl ?_
                                    refine zw_6 zr_206_177 rfl ?_
                                    refine zw_C zr_206_179 (Or.inl rfl) zm_173 rfl rfl ⟨Nat.le_of_ble_eq_true rfl, Nat.le_of_ble_eq_true rfl, Nat.le_of_ble_eq_true rfl, rfl, by decide⟩ (by omega) (th_173 (d := d - 1) (by omega) hI0 (a0 := (((0 + x31) + x105) + x151)) (a1 := (((0 + x32) + x106) + x152))      (by omega) (by omega) ) ?_
                                    rintro _ m179 ⟨rfl, hIm179, gm179⟩
                                    have hFm179 : zFr W_206 m0 m179 := hF0.trans gm179 rfl
                                    have km179_70_822 : m179 70 822 = g0 := (gm179 70 822 rfl).trans hg0
                                    have km179_70_819 : m179 70 819 = f101 := (gm179 70 819 rfl).trans ef101
                                    have km179_70_820 : m179 70 820 = f144 := (gm179 70 820 rfl).trans ef144
                                    have km179_70_821 : m179 70 821 = f167 := (gm179 70 821 rfl).trans ef167
                                    have fm179_70 : m179 70 = F70 := (funext fun k => gm179 70 k rfl).trans hG70
                                    show zW E (d) 206 182 [(2, 69), (0, a0), (0, a1), (1, (((0 + x31) + x105) + x151)), (9, 0), (1, (((0 + x32) + x106) + x152)), (9, 0), (1, x170), (9, 0), (1, x171), (9, 0), (1, (((0 + f101) + f144) + f167)), (9, 0), (0, ((((0 + 1) + 1) + 1) + 1)), (1, x151), (9, 0), (1, x152), (9, 0)] [] m179 Q
                                    refine zw_42 zr_206_182 ?_
                                    refine zw_push zr_206_196 ?_
                                    refine zw_R zr_206_197 (by decide) zm_206 (v := (0, 1)) rfl ?_
                                    rw [← hQ]; exact ⟨_, rfl, by omega, by omega, hIm179, hFm179, by omega⟩
                                · intro h181; omega
                              · intro h182; omega
                · intro h183
                  refine zw_5 zr_206_93 rfl ?_
                  refine zw_6 zr_206_94 rfl ?_
                  refine zw_27 zr_206_96 (by omega) ?_
                  refine zw_13 (L' := [(2, 69), (0, a0), (0, a1), (1, (0 + x26)), (9, 0), (1, 0), (9, 0), (1, 0), (9, 0), (1, 1), (9, 0), (1, 0), (9, 0), (0, 0), (1, x26), (9, 0), (1, x27), (9, 0)]) zr_206_97 (Nat.le_of_ble_eq_true rfl) rfl ?_
                  refine zw_6 zr_206_98 rfl ?_
                  refine zw_6 zr_206_100 rfl ?_
                  refine zw_27 zr_206_102 (by omega) ?_
                  refine zw_14 (L' := [(2, 69), (0, a0), (0, a1), (1, (0 + x26)), (9, 0), (1, (0 + x27)), (9, 0), (1, 0), (9, 0), (1, 1), (9, 0), (1, 0), (9, 0), (0, 0), (1, x26), (9, 0), (1, x27), (9, 0)]) zr_206_103 (Nat.le_of_ble_eq_true rfl) rfl ?_
                  refine zw_6 zr_206_105 rfl ?_
                  refine zw_6 zr_206_107 rfl ?_
                  refine zw_29 zr_206_109 (by omega) ?_
                  refine zw_7 zr_206_110 rfl ?_
                  refine zw_46r (s := 70) zr_206_111 rfl rfl rfl rfl ?_
                  refine zw_push zr_206_114 ?_
                  refine zw_4 zr_206_117 rfl ?_
                  refine zw_16 zr_206_119 (by omega) ?_
                  obtain ⟨f184, ef184⟩ : ∃ v, m0 70 818 = v := ⟨_, rfl⟩
                  have bf184 : 1 ≤ m0 70 818 ∧ m0 70 818 ≤ 9 := ib_70_weight hI0 (by omega)
                  rw [ef184] at bf184
                  refine zw_48k (c := 70) (len := 826) zr_206_120 rfl rfl (by omega) (by omega) (show ((818 + 0) : Int).toNat = 818 by omega) ef184 ?_
                  refine zw_36 zr_206_121 ?_
                  refine zw_6 zr_206_122 rfl ?_
                  refine zw_29h zr_206_124 ?_
                  intro x185 hx185a hx185b
                  refine zw_6 zr_206_125 rfl ?_
                  refine zw_29 zr_206_127 (by omega) ?_
                  refine zw_27 zr_206_128 (by omega) ?_
                  refine zw_14 (L' := [(2, 69), (0, a0), (0, a1), (1, (0 + x26)), (9, 0), (1, (0 + x27)), (9, 0), (1, ((0 * x27) + (x185 * 1))), (9, 0), (1, 1), (9, 0), (1, 0), (9, 0), (0, 0), (1, x26), (9, 0), (1, x27), (9, 0)]) zr_206_129 (Nat.le_of_ble_eq_true rfl) rfl ?_
                  refine zw_6 zr_206_131 rfl ?_
                  refine zw_6 zr_206_133 rfl ?_
                  refine zw_29 zr_206_135 (by omega) ?_
                  refine zw_14 (L' := [(2, 69), (0, a0), (0, a1), (1, (0 + x26)), (9, 0), (1, (0 + x27)), (9, 0), (1, ((0 * x27) + (x185 * 1))), (9, 0), (1, (1 * x27)), (9, 0), (1, 0), (9, 0), (0, 0), (1, x26), (9, 0), (1, x27), (9, 0)]) zr_206_136 (Nat.le_of_ble_eq_true rfl) rfl ?_
                  refine zw_6 zr_206_138 rfl ?_
                  refine zw_7 zr_206_140 rfl ?_
                  refine zw_46r (s := 70) zr_206_141 rfl rfl rfl rfl ?_
                  refine zw_push zr_206_144 ?_
                  refine zw_4 zr_206_147 rfl ?_
                  refine zw_16 zr_206_149 (by omega) ?_
                  refine zw_48k (c := 70) (len := 826) zr_206_150 rfl rfl (by omega) (by omega) (show ((818 + 0) : Int).toNat = 818 by omega) ef184 ?_
                  refine zw_36 zr_206_151 ?_
                  refine zw_27 zr_206_152 (by omega) ?_
                  refine zw_14 (L' := [(2, 69), (0, a0), (0, a1), (1, (0 + x26)), (9, 0), (1, (0 + x27)), (9, 0), (1, ((0 * x27) + (x185 * 1))), (9, 0), (1, (1 * x27)), (9, 0), (1, (0 + f184)), (9, 0), (0, 0), (1, x26), (9, 0), (1, x27), (9, 0)]) zr_206_153 (Nat.le_of_ble_eq_true rfl) rfl ?_
                  refine zw_15 (c := 1) (L' := [(2, 69), (0, a0), (0, a1), (1, (0 + x26)), (9, 0), (1, (0 + x27)), (9, 0), (1, ((0 * x27) + (x185 * 1))), (9, 0), (1, (1 * x27)), (9, 0), (1, (0 + f184)), (9, 0), (0, (0 + 1)), (1, x26), (9, 0), (1, x27), (9, 0)]) zr_206_155 rfl (by decide) (by omega) rfl ?_
                  refine zw_42 zr_206_158 ?_
                  refine zw_4 zr_206_38 rfl ?_
                  refine zw_push zr_206_40 ?_
                  refine zw_41_3 zr_206_41 ?_ ?_
                  · intro h186; omega
                  · intro h187
                    refine zw_7 zr_206_44 rfl ?_
                    refine zw_46r (s := 70) zr_206_45 rfl rfl rfl rfl ?_
                    refine zw_push zr_206_48 ?_
                    refine zw_push zr_206_50 ?_
                    refine zw_3 zr_206_52 rfl ?_
                    refine zw_18 zr_206_53 (by omega) ?_
                    refine zw_16 zr_206_54 (by omega) ?_
                    refine zw_push zr_206_55 ?_
                    refine zw_4 zr_206_56 rfl ?_
                    refine zw_18 zr_206_58 (by omega) ?_
                    refine zw_16 zr_206_59 (by omega) ?_
                    refine zw_48 (c := 70) (len := 826) zr_206_60 rfl rfl (by omega) (by omega) ?_
                    intro x188 ex188
                    have bx188 := ib_70_moves hI0 (k := (((10 + (8 * a0)) + (2 * (0 + 1)))).toNat) (by omega)
                    rw [← ex188] at bx188
                    have qx188 : x188 = F70 (((10 + (8 * a0)) + (2 * (0 + 1)))).toNat := by rw [← hG70]; exact ex188
                    clear ex188
                    refine zw_36 zr_206_61 ?_
                    refine zw_14 (L' := [(2, 69), (0, a0), (0, a1), (1, (0 + x26)), (9, 0), (1, (0 + x27)), (9, 0), (1, ((0 * x27) + (x185 * 1))), (9, 0), (1, (1 * x27)), (9, 0), (1, (0 + f184)), (9, 0), (0, (0 + 1)), (1, x188), (9, 0), (1, x27), (9, 0)]) zr_206_62 (Nat.le_of_ble_eq_true rfl) rfl ?_
                    refine zw_7 zr_206_64 rfl ?_
                    refine zw_46r (s := 70) zr_206_65 rfl rfl rfl rfl ?_
                    refine zw_push zr_206_68 ?_
                    refine zw_push zr_206_70 ?_
                    refine zw_3 zr_206_72 rfl ?_
                    refine zw_18 zr_206_73 (by omega) ?_
                    refine zw_16 zr_206_74 (by omega) ?_
                    refine zw_push zr_206_75 ?_
                    refine zw_4 zr_206_76 rfl ?_
                    refine zw_18 zr_206_78 (by omega) ?_
                    refine zw_16 zr_206_79 (by omega) ?_
                    refine zw_push zr_206_80 ?_
                    refine zw_16 zr_206_81 (by omega) ?_
                    refine zw_48 (c := 70) (len := 826) zr_206_82 rfl rfl (by omega) (by omega) ?_
                    intro x189 ex189
                    have bx189 := ib_70_moves hI0 (k := ((((10 + (8 * a0)) + (2 * (0 + 1))) + 1)).toNat) (by omega)
                    rw [← ex189] at bx189
                    have qx189 : x189 = F70 ((((10 + (8 * a0)) + (2 * (0 + 1))) + 1)).toNat := by rw [← hG70]; exact ex189
                    clear ex189
                    refine zw_36 zr_206_83 ?_
                    refine zw_14 (L' := [(2, 69), (0, a0), (0, a1), (1, (0 + x26)), (9, 0), (1, (0 + x27)), (9, 0), (1, ((0 * x27) + (x185 * 1))), (9, 0), (1, (1 * x27)), (9, 0), (1, (0 + f184)), (9, 0), (0, (0 + 1)), (1, x188), (9, 0), (1, x189), (9, 0)]) zr_206_84 (Nat.le_of_ble_eq_true rfl) rfl ?_
                    refine zw_6 zr_206_86 rfl ?_
                    refine zw_push zr_206_88 ?_
                    refine zw_39_5 zr_206_89 zr_206_90 ?_ ?_
                    · intro h190
                      refine zw_15 (c := 1) (L' := [(2, 69), (0, a0), (0, a1), (1, (0 + x26)), (9, 0), (1, (0 + x27)), (9, 0), (1, ((0 * x27) + (x185 * 1))), (9, 0), (1, (1 * x27)), (9, 0), (1, (0 + f184)), (9, 0), (0, ((0 + 1) + 1)), (1, x188), (9, 0), (1, x189), (9, 0)]) zr_206_155 rfl (by decide) (by omega) rfl ?_
                      refine zw_42 zr_206_158 ?_
                      refine zw_4 zr_206_38 rfl ?_
                      refine zw_push zr_206_40 ?_
                      refine zw_41_3 zr_206_41 ?_ ?_
                      · intro h191; omega
                      · intro h192
                        refine zw_7 zr_206_44 rfl ?_
                        refine zw_46r (s := 70) zr_206_45 rfl rfl rfl rfl ?_
                        refine zw_push zr_206_48 ?_
                        refine zw_push zr_206_50 ?_
                        refine zw_3 zr_206_52 rfl ?_
                        refine zw_18 zr_206_53 (by omega) ?_
                        refine zw_16 zr_206_54 (by omega) ?_
                        refine zw_push zr_206_55 ?_
                        refine zw_4 zr_206_56 rfl ?_
                        refine zw_18 zr_206_58 (by omega) ?_
                        refine zw_16 zr_206_59 (by omega) ?_
                        refine zw_48 (c := 70) (len := 826) zr_206_60 rfl rfl (by omega) (by omega) ?_
                        intro x193 ex193
                        have bx193 := ib_70_moves hI0 (k := (((10 + (8 * a0)) + (2 * ((0 + 1) + 1)))).toNat) (by omega)
                        rw [← ex193] at bx193
                        have qx193 : x193 = F70 (((10 + (8 * a0)) + (2 * ((0 + 1) + 1)))).toNat := by rw [← hG70]; exact ex193
                        clear ex193
                        refine zw_36 zr_206_61 ?_
                        refine zw_14 (L' := [(2, 69), (0, a0), (0, a1), (1, (0 + x26)), (9, 0), (1, (0 + x27)), (9, 0), (1, ((0 * x27) + (x185 * 1))), (9, 0), (1, (1 * x27)), (9, 0), (1, (0 + f184)), (9, 0), (0, ((0 + 1) + 1)), (1, x193), (9, 0), (1, x189), (9, 0)]) zr_206_62 (Nat.le_of_ble_eq_true rfl) rfl ?_
                        refine zw_7 zr_206_64 rfl ?_
                        refine zw_46r (s := 70) zr_206_65 rfl rfl rfl rfl ?_
                        refine zw_push zr_206_68 ?_
                        refine zw_push zr_206_70 ?_
                        refine zw_3 zr_206_72 rfl ?_
                        refine zw_18 zr_206_73 (by omega) ?_
                        refine zw_16 zr_206_74 (by omega) ?_
                        refine zw_push zr_206_75 ?_
                        refine zw_4 zr_206_76 rfl ?_
                        refine zw_18 zr_206_78 (by omega) ?_
                        refine zw_16 zr_206_79 (by omega) ?_
                        refine zw_push zr_206_80 ?_
                        refine zw_16 zr_206_81 (by omega) ?_
                        refine zw_48 (c := 70) (len := 826) zr_206_82 rfl rfl (by omega) (by omega) ?_
                        intro x194 ex194
                        have bx194 := ib_70_moves hI0 (k := ((((10 + (8 * a0)) + (2 * ((0 + 1) + 1))) + 1)).toNat) (by omega)
                        rw [← ex194] at bx194
                        have qx194 : x194 = F70 ((((10 + (8 * a0)) + (2 * ((0 + 1) + 1))) + 1)).toNat := by rw [← hG70]; exact ex194
                        clear ex194
                        refine zw_36 zr_206_83 ?_
                        refine zw_14 (L' := [(2, 69), (0, a0), (0, a1), (1, (0 + x26)), (9, 0), (1, (0 + x27)), (9, 0), (1, ((0 * x27) + (x185 * 1))), (9, 0), (1, (1 * x27)), (9, 0), (1, (0 + f184)), (9, 0), (0, ((0 + 1) + 1)), (1, x193), (9, 0), (1, x194), (9, 0)]) zr_206_84 (Nat.le_of_ble_eq_true rfl) rfl ?_
                        refine zw_6 zr_206_86 rfl ?_
                        refine zw_push zr_206_88 ?_
                        refine zw_39_5 zr_206_89 zr_206_90 ?_ ?_
                        · intro h195
                          refine zw_15 (c := 1) (L' := [(2, 69), (0, a0), (0, a1), (1, (0 + x26)), (9, 0), (1, (0 + x27)), (9, 0), (1, ((0 * x27) + (x185 * 1))), (9, 0), (1, (1 * x27)), (9, 0), (1, (0 + f184)), (9, 0), (0, (((0 + 1) + 1) + 1)), (1, x193), (9, 0), (1, x194), (9, 0)]) zr_206_155 rfl (by decide) (by omega) rfl ?_
                          refine zw_42 zr_206_158 ?_
                          refine zw_4 zr_206_38 rfl ?_
                          refine zw_push zr_206_40 ?_
                          refine zw_41_3 zr_206_41 ?_ ?_
                          · intro h196; omega
                          · intro h197
                            refine zw_7 zr_206_44 rfl ?_
                            refine zw_46r (s := 70) zr_206_45 rfl rfl rfl rfl ?_
                            refine zw_push zr_206_48 ?_
                            refine zw_push zr_206_50 ?_
                            refine zw_3 zr_206_52 rfl ?_
                            refine zw_18 zr_206_53 (by omega) ?_
                            refine zw_16 zr_206_54 (by omega) ?_
                            refine zw_push zr_206_55 ?_
                            refine zw_4 zr_206_56 rfl ?_
                            refine zw_18 zr_206_58 (by omega) ?_
                            refine zw_16 zr_206_59 (by omega) ?_
                            refine zw_48 (c := 70) (len := 826) zr_206_60 rfl rfl (by omega) (by omega) ?_
                            intro x198 ex198
                            have bx198 := ib_70_moves hI0 (k := (((10 + (8 * a0)) + (2 * (((0 + 1) + 1) + 1)))).toNat) (by omega)
                            rw [← ex198] at bx198
                            have qx198 : x198 = F70 (((10 + (8 * a0)) + (2 * (((0 + 1) + 1) + 1)))).toNat := by rw [← hG70]; exact ex198
                            clear ex198
                            refine zw_36 zr_206_61 ?_
                            refine zw_14 (L' := [(2, 69), (0, a0), (0, a1), (1, (0 + x26)), (9, 0), (1, (0 + x27)), (9, 0), (1, ((0 * x27) + (x185 * 1))), (9, 0), (1, (1 * x27)), (9, 0), (1, (0 + f184)), (9, 0), (0, (((0 + 1) + 1) + 1)), (1, x198), (9, 0), (1, x194), (9, 0)]) zr_206_62 (Nat.le_of_ble_eq_true rfl) rfl ?_
                            refine zw_7 zr_206_64 rfl ?_
                            refine zw_46r (s := 70) zr_206_65 rfl rfl rfl rfl ?_
                            refine zw_push zr_206_68 ?_
                            refine zw_push zr_206_70 ?_
                            refine zw_3 zr_206_72 rfl ?_
                            refine zw_18 zr_206_73 (by omega) ?_
                            refine zw_16 zr_206_74 (by omega) ?_
                            refine zw_push zr_206_75 ?_
                            refine zw_4 zr_206_76 rfl ?_
                            refine zw_18 zr_206_78 (by omega) ?_
                            refine zw_16 zr_206_79 (by omega) ?_
                            refine zw_push zr_206_80 ?_
                            refine zw_16 zr_206_81 (by omega) ?_
                            refine zw_48 (c := 70) (len := 826) zr_206_82 rfl rfl (by omega) (by omega) ?_
                            intro x199 ex199
                            have bx199 := ib_70_moves hI0 (k := ((((10 + (8 * a0)) + (2 * (((0 + 1) + 1) + 1))) + 1)).toNat) (by omega)
                            rw [← ex199] at bx199
                            have qx199 : x199 = F70 ((((10 + (8 * a0)) + (2 * (((0 + 1) + 1) + 1))) + 1)).toNat := by rw [← hG70]; exact ex199
                            clear ex199
                            refine zw_36 zr_206_83 ?_
                            refine zw_14 (L' := [(2, 69), (0, a0), (0, a1), (1, (0 + x26)), (9, 0), (1, (0 + x27)), (9, 0), (1, ((0 * x27) + (x185 * 1))), (9, 0), (1, (1 * x27)), (9, 0), (1, (0 + f184)), (9, 0), (0, (((0 + 1) + 1) + 1)), (1, x198), (9, 0), (1, x199), (9, 0)]) zr_206_84 (Nat.le_of_ble_eq_true rfl) rfl ?_
                            refine zw_6 zr_206_86 rfl ?_
                            refine zw_push zr_206_88 ?_
                            refine zw_39_5 zr_206_89 zr_206_90 ?_ ?_
                            · intro h200
                              refine zw_15 (c := 1) (L' := [(2, 69), (0, a0), (0, a1), (1, (0 + x26)), (9, 0), (1, (0 + x27)), (9, 0), (1, ((0 * x27) + (x185 * 1))), (9, 0), (1, (1 * x27)), (9, 0), (1, (0 + f184)), (9, 0), (0, ((((0 + 1) + 1) + 1) + 1)), (1, x198), (9, 0), (1, x199), (9, 0)]) zr_206_155 rfl (by decide) (by omega) rfl ?_
                              refine zw_42 zr_206_158 ?_
                              refine zw_4 zr_206_38 rfl ?_
                              refine zw_push zr_206_40 ?_
                              refine zw_41_3 zr_206_41 ?_ ?_
                              · intro h201
                                refine zw_6 zr_206_161 rfl ?_
                                refine zw_push zr_206_163 ?_
                                refine zw_39_4 zr_206_164 zr_206_165 ?_ ?_
                                · intro h202
                                  refine zw_3 zr_206_171 rfl ?_
                                  refine zw_40_4 zr_206_172 ?_ ?_
                                  · intro h203
                                    refine zw_7 zr_206_185 rfl ?_
                                    refine zw_6 zr_206_186 rfl ?_
                                    refine zw_6 zr_206_188 rfl ?_
                                    refine zw_6 zr_206_190 rfl ?_
                                    refine zw_29p (A := 99) (B := 9) zr_206_192 (by omega) (by omega) (by omega) (by omega) (by decide) ?_
                                    intro x204 hx204a hx204b
                                    refine zw_C zr_206_193 (Or.inl rfl) zm_173 rfl rfl ⟨Nat.le_of_ble_eq_true rfl, Nat.le_of_ble_eq_true rfl, Nat.le_of_ble_eq_true rfl, rfl, by decide⟩ (by omega) (th_173 (d := d - 1) (by omega) hI0 (a0 := ((0 * x27) + (x185 * 1))) (a1 := x204)      (by omega) (by omega) ) ?_
                                    rintro _ m205 ⟨rfl, hIm205, gm205⟩
                                    have hFm205 : zFr W_206 m0 m205 := hF0.trans gm205 rfl
                                    have km205_70_822 : m205 70 822 = g0 := (gm205 70 822 rfl).trans hg0
                                    have km205_70_818 : m205 70 818 = f184 := (gm205 70 818 rfl).trans ef184
                                    have fm205_70 : m205 70 = F70 := (funext fun k => gm205 70 k rfl).trans hG70
                                    show zW E (d) 206 196 [(2, 69), (0, a0), (0, a1), (1, (0 + x26)), (9, 0), (1, (0 + x27)), (9, 0), (1, ((0 * x27) + (x185 * 1))), (9, 0), (1, (1 * x27)), (9, 0), (1, (0 + f184)), (9, 0), (0, ((((0 + 1) + 1) + 1) + 1)), (1, x198), (9, 0), (1, x199), (9, 0)] [] m205 Q
                                    refine zw_push zr_206_196 ?_
                                    refine zw_R zr_206_197 (by decide) zm_206 (v := (0, 1)) rfl ?_
                                    rw [← hQ]; exact ⟨_, rfl, by omega, by omega, hIm205, hFm205, by omega⟩
                                  · intro h207
                                    refine zw_7 zr_206_175 rfl ?_
                                    refine zw_5 zr_206_176 rfl ?_
                                    refine zw_6 zr_206_177 rfl ?_
                                    refine zw_C zr_206_179 (Or.inl rfl) zm_173 rfl rfl ⟨Nat.le_of_ble_eq_true rfl, Nat.le_of_ble_eq_true rfl, Nat.le_of_ble_eq_true rfl, rfl, by decide⟩ (by omega) (th_173 (d := d - 1) (by omega) hI0 (a0 := (0 + x26)) (a1 := (0 + x27))      (by omega) (by omega) ) ?_
                                    rintro _ m208 ⟨rfl, hIm208, gm208⟩
                                    have hFm208 : zFr W_206 m0 m208 := hF0.trans gm208 rfl
                                    have km208_70_822 : m208 70 822 = g0 := (gm208 70 822 rfl).trans hg0
                                    have km208_70_818 : m208 70 818 = f184 := (gm208 70 818 rfl).trans ef184
                                    have fm208_70 : m208 70 = F70 := (funext fun k => gm208 70 k rfl).trans hG70
                                    show zW E (d) 206 182 [(2, 69), (0, a0), (0, a1), (1, (0 + x26)), (9, 0), (1, (0 + x27)), (9, 0), (1, ((0 * x27) + (x185 * 1))), (9, 0), (1, (1 * x27)), (9, 0), (1, (0 + f184)), (9, 0), (0, ((((0 + 1) + 1) + 1) + 1)), (1, x198), (9, 0), (1, x199), (9, 0)] [] m208 Q
                                    refine zw_42 zr_206_182 ?_
                                    refine zw_push zr_206_196 ?_
                                    refine zw_R zr_206_197 (by decide) zm_206 (v := (0, 1)) rfl ?_
                                    rw [← hQ]; exact ⟨_, rfl, by omega, by omega, hIm208, hFm208, by omega⟩
                                · intro h210; omega
                              · intro h211; omega
                            · intro h212
                              refine zw_5 zr_206_93 rfl ?_
                              refine zw_6 zr_206_94 rfl ?_
                              refine zw_27 zr_206_96 (by omega) ?_
                              refine zw_13 (L' := [(2, 69), (0, a0), (0, a1), (1, ((0 + x26) + x198)), (9, 0), (1, (0 + x27)), (9, 0), (1, ((0 * x27) + (x185 * 1))), (9, 0), (1, (1 * x27)), (9, 0), (1, (0 + f184)), (9, 0), (0, (((0 + 1) + 1) + 1)), (1, x198), (9, 0), (1, x199), (9, 0)]) zr_206_97 (Nat.le_of_ble_eq_true rfl) rfl ?_
                              refine zw_6 zr_206_98 rfl ?_
                              refine zw_6 zr_206_100 rfl ?_
                              refine zw_27 zr_206_102 (by omega) ?_
                              refine zw_14 (L' := [(2, 69), (0, a0), (0, a1), (1, ((0 + x26) + x198)), (9, 0), (1, ((0 + x27) + x199)), (9, 0), (1, ((0 * x27) + (x185 * 1))), (9, 0), (1, (1 * x27)), (9, 0), (1, (0 + f184)), (9, 0), (0, (((0 + 1) + 1) + 1)), (1, x198), (9, 0), (1, x199), (9, 0)]) zr_206_103 (Nat.le_of_ble_eq_true rfl) rfl ?_
                              refine zw_6 zr_206_105 rfl ?_
                              refine zw_6 zr_206_107 rfl ?_
                              refine zw_29h zr_206_109 ?_
                              intro x213 hx213a hx213b
                              refine zw_7 zr_206_110 rfl ?_
                              refine zw_46r (s := 70) zr_206_111 rfl rfl rfl rfl ?_
                              refine zw_push zr_206_114 ?_
                              refine zw_4 zr_206_117 rfl ?_
                              refine zw_16 zr_206_119 (by omega) ?_
                              obtain ⟨f214, ef214⟩ : ∃ v, m0 70 821 = v := ⟨_, rfl⟩
                              have bf214 : 1 ≤ m0 70 821 ∧ m0 70 821 ≤ 9 := ib_70_weight hI0 (by omega)
                              rw [ef214] at bf214
                              refine zw_48k (c := 70) (len := 826) zr_206_120 rfl rfl (by omega) (by omega) (show ((818 + (((0 + 1) + 1) + 1)) : Int).toNat = 821 by omega) ef214 ?_
                              refine zw_36 zr_206_121 ?_
                              refine zw_6 zr_206_122 rfl ?_
                              refine zw_29h zr_206_124 ?_
                              intro x215 hx215a hx215b
                              refine zw_6 zr_206_125 rfl ?_
                              refine zw_29h zr_206_127 ?_
                              intro x216 hx216a hx216b
                              refine zw_27h zr_206_128 ?_
                              intro x217 hx217a hx217b
                              refine zw_14 (L' := [(2, 69), (0, a0), (0, a1), (1, ((0 + x26) + x198)), (9, 0), (1, ((0 + x27) + x199)), (9, 0), (1, x217), (9, 0), (1, (1 * x27)), (9, 0), (1, (0 + f184)), (9, 0), (0, (((0 + 1) + 1) + 1)), (1, x198), (9, 0), (1, x199), (9, 0)]) zr_206_129 (Nat.le_of_ble_eq_true rfl) rfl ?_
                              refine zw_6 zr_206_131 rfl ?_
                              refine zw_6 zr_206_133 rfl ?_
                              refine zw_29p (A := 99) (B := 99) zr_206_135 (by omega) (by omega) (by omega) (by omega) (by decide) ?_
                              intro x218 hx218a hx218b
                              refine zw_14 (L' := [(2, 69), (0, a0), (0, a1), (1, ((0 + x26) + x198)), (9, 0), (1, ((0 + x27) + x199)), (9, 0), (1, x217), (9, 0), (1, x218), (9, 0), (1, (0 + f184)), (9, 0), (0, (((0 + 1) + 1) + 1)), (1, x198), (9, 0), (1, x199), (9, 0)]) zr_206_136 (Nat.le_of_ble_eq_true rfl) rfl ?_
                              refine zw_6 zr_206_138 rfl ?_
                              refine zw_7 zr_206_140 rfl ?_
                              refine zw_46r (s := 70) zr_206_141 rfl rfl rfl rfl ?_
                              refine zw_push zr_206_144 ?_
                              refine zw_4 zr_206_147 rfl ?_
                              refine zw_16 zr_206_149 (by omega) ?_
                              refine zw_48k (c := 70) (len := 826) zr_206_150 rfl rfl (by omega) (by omega) (show ((818 + (((0 + 1) + 1) + 1)) : Int).toNat = 821 by omega) ef214 ?_
                              refine zw_36 zr_206_151 ?_
                              refine zw_27 zr_206_152 (by omega) ?_
                              refine zw_14 (L' := [(2, 69), (0, a0), (0, a1), (1, ((0 + x26) + x198)), (9, 0), (1, ((0 + x27) + x199)), (9, 0), (1, x217), (9, 0), (1, x218), (9, 0), (1, ((0 + f184) + f214)), (9, 0), (0, (((0 + 1) + 1) + 1)), (1, x198), (9, 0), (1, x199), (9, 0)]) zr_206_153 (Nat.le_of_ble_eq_true rfl) rfl ?_
                              refine zw_15 (c := 1) (L' := [(2, 69), (0, a0), (0, a1), (1, ((0 + x26) + x198)), (9, 0), (1, ((0 + x27) + x199)), (9, 0), (1, x217), (9, 0), (1, x218), (9, 0), (1, ((0 + f184) + f214)), (9, 0), (0, ((((0 + 1) + 1) + 1) + 1)), (1, x198), (9, 0), (1, x199), (9, 0)]) zr_206_155 rfl (by decide) (by omega) rfl ?_
                              refine zw_42 zr_206_158 ?_
                              refine zw_4 zr_206_38 rfl ?_
                              refine zw_push zr_206_40 ?_
                              refine zw_41_3 zr_206_41 ?_ ?_
                              · intro h219
                                refine zw_6 zr_206_161 rfl ?_
                                refine zw_push zr_206_163 ?_
                                refine zw_39_4 zr_206_164 zr_206_165 ?_ ?_
                                · intro h220
                                  refine zw_3 zr_206_171 rfl ?_
                                  refine zw_40_4 zr_206_172 ?_ ?_
                                  · intro h221
                                    refine zw_7 zr_206_185 rfl ?_
                                    refine zw_6 zr_206_186 rfl ?_
                                    refine zw_6 zr_206_188 rfl ?_
                                    refine zw_6 zr_206_190 rfl ?_
                                    refine zw_29p (A := 9801) (B := 18) zr_206_192 (by omega) (by omega) (by omega) (by omega) (by decide) ?_
                                    intro x222 hx222a hx222b
                                    refine zw_C zr_206_193 (Or.inl rfl) zm_173 rfl rfl ⟨Nat.le_of_ble_eq_true rfl, Nat.le_of_ble_eq_true rfl, Nat.le_of_ble_eq_true rfl, rfl, by decide⟩ (by omega) (th_173 (d := d - 1) (by omega) hI0 (a0 := x217) (a1 := x222)      (by omega) (by omega) ) ?_
                                    rintro _ m223 ⟨rfl, hIm223, gm223⟩
                                    have hFm223 : zFr W_206 m0 m223 := hF0.trans gm223 rfl
                                    have km223_70_822 : m223 70 822 = g0 := (gm223 70 822 rfl).trans hg0
                                    have km223_70_818 : m223 70 818 = f184 := (gm223 70 818 rfl).trans ef184
                                    have km223_70_821 : m223 70 821 = f214 := (gm223 70 821 rfl).trans ef214
                                    have fm223_70 : m223 70 = F70 := (funext fun k => gm223 70 k rfl).trans hG70
                                    show zW E (d) 206 196 [(2, 69), (0, a0), (0, a1), (1, ((0 + x26) + x198)), (9, 0), (1, ((0 + x27) + x199)), (9, 0), (1, x217), (9, 0), (1, x218), (9, 0), (1, ((0 + f184) + f214)), (9, 0), (0, ((((0 + 1) + 1) + 1) + 1)), (1, x198), (9, 0), (1, x199), (9, 0)] [] m223 Q
                                    refine zw_push zr_206_196 ?_
                                    refine zw_R zr_206_197 (by decide) zm_206 (v := (0, 1)) rfl ?_
                                    rw [← hQ]; exact ⟨_, rfl, by omega, by omega, hIm223, hFm223, by omega⟩
                                  · intro h225
                                    refine zw_7 zr_206_175 rfl ?_
                                    refine zw_5 zr_206_176 rfl ?_
                                    refine zw_6 zr_206_177 rfl ?_
                                    refine zw_C zr_206_179 (Or.inl rfl) zm_173 rfl rfl ⟨Nat.le_of_ble_eq_true rfl, Nat.le_of_ble_eq_true rfl, Nat.le_of_ble_eq_true rfl, rfl, by decide⟩ (by omega) (th_173 (d := d - 1) (by omega) hI0 (a0 := ((0 + x26) + x198)) (a1 := ((0 + x27) + x199))      (by omega) (by omega) ) ?_
                                    rintro _ m226 ⟨rfl, hIm226, gm226⟩
                                    have hFm226 : zFr W_206 m0 m226 := hF0.trans gm226 rfl
                                    have km226_70_822 : m226 70 822 = g0 := (gm226 70 822 rfl).trans hg0
                                    have km226_70_818 : m226 70 818 = f184 := (gm226 70 818 rfl).trans ef184
                                    have km226_70_821 : m226 70 821 = f214 := (gm226 70 821 rfl).trans ef214
                                    have fm226_70 : m226 70 = F70 := (funext fun k => gm226 70 k rfl).trans hG70
                                    show zW E (d) 206 182 [(2, 69), (0, a0), (0, a1), (1, ((0 + x26) + x198)), (9, 0), (1, ((0 + x27) + x199)), (9, 0), (1, x217), (9, 0), (1, x218), (9, 0), (1, ((0 + f184) + f214)), (9, 0), (0, ((((0 + 1) + 1) + 1) + 1)), (1, x198), (9, 0), (1, x199), (9, 0)] [] m226 Q
                                    refine zw_42 zr_206_182 ?_
                                    refine zw_push zr_206_196 ?_
                                    refine zw_R zr_206_197 (by decide) zm_206 (v := (0, 1)) rfl ?_
                                    rw [← hQ]; exact ⟨_, rfl, by omega, by omega, hIm226, hFm226, by omega⟩
                                · intro h228; omega
                              · intro h229; omega
                        · intro h230
                          refine zw_5 zr_206_93 rfl ?_
                          refine zw_6 zr_206_94 rfl ?_
                          refine zw_27 zr_206_96 (by omega) ?_
                          refine zw_13 (L' := [(2, 69), (0, a0), (0, a1), (1, ((0 + x26) + x193)), (9, 0), (1, (0 + x27)), (9, 0), (1, ((0 * x27) + (x185 * 1))), (9, 0), (1, (1 * x27)), (9, 0), (1, (0 + f184)), (9, 0), (0, ((0 + 1) + 1)), (1, x193), (9, 0), (1, x194), (9, 0)]) zr_206_97 (Nat.le_of_ble_eq_true rfl) rfl ?_
                          refine zw_6 zr_206_98 rfl ?_
                          refine zw_6 zr_206_100 rfl ?_
                          refine zw_27 zr_206_102 (by omega) ?_
                          refine zw_14 (L' := [(2, 69), (0, a0), (0, a1), (1, ((0 + x26) + x193)), (9, 0), (1, ((0 + x27) + x194)), (9, 0), (1, ((0 * x27) + (x185 * 1))), (9, 0), (1, (1 * x27)), (9, 0), (1, (0 + f184)), (9, 0), (0, ((0 + 1) + 1)), (1, x193), (9, 0), (1, x194), (9, 0)]) zr_206_103 (Nat.le_of_ble_eq_true rfl) rfl ?_
                          refine zw_6 zr_206_105 rfl ?_
                          refine zw_6 zr_206_107 rfl ?_
                          refine zw_29h zr_206_109 ?_
                          intro x231 hx231a hx231b
                          refine zw_7 zr_206_110 rfl ?_
                          refine zw_46r (s := 70) zr_206_111 rfl rfl rfl rfl ?_
                          refine zw_push zr_206_114 ?_
                          refine zw_4 zr_206_117 rfl ?_
                          refine zw_16 zr_206_119 (by omega) ?_
                          obtain ⟨f232, ef232⟩ : ∃ v, m0 70 820 = v := ⟨_, rfl⟩
                          have bf232 : 1 ≤ m0 70 820 ∧ m0 70 820 ≤ 9 := ib_70_weight hI0 (by omega)
                          rw [ef232] at bf232
                          refine zw_48k (c := 70) (len := 826) zr_206_120 rfl rfl (by omega) (by omega) (show ((818 + ((0 + 1) + 1)) : Int).toNat = 820 by omega) ef232 ?_
                          refine zw_36 zr_206_121 ?_
                          refine zw_6 zr_206_122 rfl ?_
                          refine zw_29h zr_206_124 ?_
                          intro x233 hx233a hx233b
                          refine zw_6 zr_206_125 rfl ?_
                          refine zw_29h zr_206_127 ?_
                          intro x234 hx234a hx234b
                          refine zw_27h zr_206_128 ?_
                          intro x235 hx235a hx235b
                          refine zw_14 (L' := [(2, 69), (0, a0), (0, a1), (1, ((0 + x26) + x193)), (9, 0), (1, ((0 + x27) + x194)), (9, 0), (1, x235), (9, 0), (1, (1 * x27)), (9, 0), (1, (0 + f184)), (9, 0), (0, ((0 + 1) + 1)), (1, x193), (9, 0), (1, x194), (9, 0)]) zr_206_129 (Nat.le_of_ble_eq_true rfl) rfl ?_
                          refine zw_6 zr_206_131 rfl ?_
                          refine zw_6 zr_206_133 rfl ?_
                          refine zw_29p (A := 99) (B := 99) zr_206_135 (by omega) (by omega) (by omega) (by omega) (by decide) ?_
                          intro x236 hx236a hx236b
                          refine zw_14 (L' := [(2, 69), (0, a0), (0, a1), (1, ((0 + x26) + x193)), (9, 0), (1, ((0 + x27) + x194)), (9, 0), (1, x235), (9, 0), (1, x236), (9, 0), (1, (0 + f184)), (9, 0), (0, ((0 + 1) + 1)), (1, x193), (9, 0), (1, x194), (9, 0)]) zr_206_136 (Nat.le_of_ble_eq_true rfl) rfl ?_
                          refine zw_6 zr_206_138 rfl ?_
                          refine zw_7 zr_206_140 rfl ?_
                          refine zw_46r (s := 70) zr_206_141 rfl rfl rfl rfl ?_
                          refine zw_push zr_206_144 ?_
                          refine zw_4 zr_206_147 rfl ?_
                          refine zw_16 zr_206_149 (by omega) ?_
                          refine zw_48k (c := 70) (len := 826) zr_206_150 rfl rfl (by omega) (by omega) (show ((818 + ((0 + 1) + 1)) : Int).toNat = 820 by omega) ef232 ?_
                          refine zw_36 zr_206_151 ?_
                          refine zw_27 zr_206_152 (by omega) ?_
                          refine zw_14 (L' := [(2, 69), (0, a0), (0, a1), (1, ((0 + x26) + x193)), (9, 0), (1, ((0 + x27) + x194)), (9, 0), (1, x235), (9, 0), (1, x236), (9, 0), (1, ((0 + f184) + f232)), (9, 0), (0, ((0 + 1) + 1)), (1, x193), (9, 0), (1, x194), (9, 0)]) zr_206_153 (Nat.le_of_ble_eq_true rfl) rfl ?_
                          refine zw_15 (c := 1) (L' := [(2, 69), (0, a0), (0, a1), (1, ((0 + x26) + x193)), (9, 0), (1, ((0 + x27) + x194)), (9, 0), (1, x235), (9, 0), (1, x236), (9, 0), (1, ((0 + f184) + f232)), (9, 0), (0, (((0 + 1) + 1) + 1)), (1, x193), (9, 0), (1, x194), (9, 0)]) zr_206_155 rfl (by decide) (by omega) rfl ?_
                          refine zw_42 zr_206_158 ?_
                          refine zw_4 zr_206_38 rfl ?_
                          refine zw_push zr_206_40 ?_
                          refine zw_41_3 zr_206_41 ?_ ?_
                          · intro h237; omega
                          · intro h238
                            refine zw_7 zr_206_44 rfl ?_
                            refine zw_46r (s := 70) zr_206_45 rfl rfl rfl rfl ?_
                            refine zw_push zr_206_48 ?_
                            refine zw_push zr_206_50 ?_
                            refine zw_3 zr_206_52 rfl ?_
                            refine zw_18 zr_206_53 (by omega) ?_
                            refine zw_16 zr_206_54 (by omega) ?_
                            refine zw_push zr_206_55 ?_
                            refine zw_4 zr_206_56 rfl ?_
                            refine zw_18 zr_206_58 (by omega) ?_
                            refine zw_16 zr_206_59 (by omega) ?_
                            refine zw_48 (c := 70) (len := 826) zr_206_60 rfl rfl (by omega) (by omega) ?_
                            intro x239 ex239
                            have bx239 := ib_70_moves hI0 (k := (((10 + (8 * a0)) + (2 * (((0 + 1) + 1) + 1)))).toNat) (by omega)
                            rw [← ex239] at bx239
                            have qx239 : x239 = F70 (((10 + (8 * a0)) + (2 * (((0 + 1) + 1) + 1)))).toNat := by rw [← hG70]; exact ex239
                            clear ex239
                            refine zw_36 zr_206_61 ?_
                            refine zw_14 (L' := [(2, 69), (0, a0), (0, a1), (1, ((0 + x26) + x193)), (9, 0), (1, ((0 + x27) + x194)), (9, 0), (1, x235), (9, 0), (1, x236), (9, 0), (1, ((0 + f184) + f232)), (9, 0), (0, (((0 + 1) + 1) + 1)), (1, x239), (9, 0), (1, x194), (9, 0)]) zr_206_62 (Nat.le_of_ble_eq_true rfl) rfl ?_
                            refine zw_7 zr_206_64 rfl ?_
                            refine zw_46r (s := 70) zr_206_65 rfl rfl rfl rfl ?_
                            refine zw_push zr_206_68 ?_
                            refine zw_push zr_206_70 ?_
                            refine zw_3 zr_206_72 rfl ?_
                            refine zw_18 zr_206_73 (by omega) ?_
                            refine zw_16 zr_206_74 (by omega) ?_
                            refine zw_push zr_206_75 ?_
                            refine zw_4 zr_206_76 rfl ?_
                            refine zw_18 zr_206_78 (by omega) ?_
                            refine zw_16 zr_206_79 (by omega) ?_
                            refine zw_push zr_206_80 ?_
                            refine zw_16 zr_206_81 (by omega) ?_
                            refine zw_48 (c := 70) (len := 826) zr_206_82 rfl rfl (by omega) (by omega) ?_
                            intro x240 ex240
                            have bx240 := ib_70_moves hI0 (k := ((((10 + (8 * a0)) + (2 * (((0 + 1) + 1) + 1))) + 1)).toNat) (by omega)
                            rw [← ex240] at bx240
                            have qx240 : x240 = F70 ((((10 + (8 * a0)) + (2 * (((0 + 1) + 1) + 1))) + 1)).toNat := by rw [← hG70]; exact ex240
                            clear ex240
                            refine zw_36 zr_206_83 ?_
                            refine zw_14 (L' := [(2, 69), (0, a0), (0, a1), (1, ((0 + x26) + x193)), (9, 0), (1, ((0 + x27) + x194)), (9, 0), (1, x235), (9, 0), (1, x236), (9, 0), (1, ((0 + f184) + f232)), (9, 0), (0, (((0 + 1) + 1) + 1)), (1, x239), (9, 0), (1, x240), (9, 0)]) zr_206_84 (Nat.le_of_ble_eq_true rfl) rfl ?_
                            refine zw_6 zr_206_86 rfl ?_
                            refine zw_push zr_206_88 ?_
                            refine zw_39_5 zr_206_89 zr_206_90 ?_ ?_
                            · intro h241
                              refine zw_15 (c := 1) (L' := [(2, 69), (0, a0), (0, a1), (1, ((0 + x26) + x193)), (9, 0), (1, ((0 + x27) + x194)), (9, 0), (1, x235), (9, 0), (1, x236), (9, 0), (1, ((0 + f184) + f232)), (9, 0), (0, ((((0 + 1) + 1) + 1) + 1)), (1, x239), (9, 0), (1, x240), (9, 0)]) zr_206_155 rfl (by decide) (by omega) rfl ?_
                              refine zw_42 zr_206_158 ?_
                              refine zw_4 zr_206_38 rfl ?_
                              refine zw_push zr_206_40 ?_
                              refine zw_41_3 zr_206_41 ?_ ?_
                              · intro h242
                                refine zw_6 zr_206_161 rfl ?_
                                refine zw_push zr_206_163 ?_
                                refine zw_39_4 zr_206_164 zr_206_165 ?_ ?_
                                · intro h243
                                  refine zw_3 zr_206_171 rfl ?_
                                  refine zw_40_4 zr_206_172 ?_ ?_
                                  · intro h244
                                    refine zw_7 zr_206_185 rfl ?_
                                    refine zw_6 zr_206_186 rfl ?_
                                    refine zw_6 zr_206_188 rfl ?_
                                    refine zw_6 zr_206_190 rfl ?_
                                    refine zw_29p (A := 9801) (B := 18) zr_206_192 (by omega) (by omega) (by omega) (by omega) (by decide) ?_
                                    intro x245 hx245a hx245b
                                    refine zw_C zr_206_193 (Or.inl rfl) zm_173 rfl rfl ⟨Nat.le_of_ble_eq_true rfl, Nat.le_of_ble_eq_true rfl, Nat.le_of_ble_eq_true rfl, rfl, by decide⟩ (by omega) (th_173 (d := d - 1) (by omega) hI0 (a0 := x235) (a1 := x245)      (by omega) (by omega) ) ?_
                                    rintro _ m246 ⟨rfl, hIm246, gm246⟩
                                    have hFm246 : zFr W_206 m0 m246 := hF0.trans gm246 rfl
                                    have km246_70_822 : m246 70 822 = g0 := (gm246 70 822 rfl).trans hg0
                                    have km246_70_818 : m246 70 818 = f184 := (gm246 70 818 rfl).trans ef184
                                    have km246_70_820 : m246 70 820 = f232 := (gm246 70 820 rfl).trans ef232
                                    have fm246_70 : m246 70 = F70 := (funext fun k => gm246 70 k rfl).trans hG70
                                    show zW E (d) 206 196 [(2, 69), (0, a0), (0, a1), (1, ((0 + x26) + x193)), (9, 0), (1, ((0 + x27) + x194)), (9, 0), (1, x235), (9, 0), (1, x236), (9, 0), (1, ((0 + f184) + f232)), (9, 0), (0, ((((0 + 1) + 1) + 1) + 1)), (1, x239), (9, 0), (1, x240), (9, 0)] [] m246 Q
                                    refine zw_push zr_206_196 ?_
                                    refine zw_R zr_206_197 (by decide) zm_206 (v := (0, 1)) rfl ?_
                                    rw [← hQ]; exact ⟨_, rfl, by omega, by omega, hIm246, hFm246, by omega⟩
                                  · intro h248
                                    refine zw_7 zr_206_175 rfl ?_
                                    refine zw_5 zr_206_176 rfl ?_
                                    refine zw_6 zr_206_177 rfl ?_
                                    refine zw_C zr_206_179 (Or.inl rfl) zm_173 rfl rfl ⟨Nat.le_of_ble_eq_true rfl, Nat.le_of_ble_eq_true rfl, Nat.le_of_ble_eq_true rfl, rfl, by decide⟩ (by omega) (th_173 (d := d - 1) (by omega) hI0 (a0 := ((0 + x26) + x193)) (a1 := ((0 + x27) + x194))      (by omega) (by omega) ) ?_
                                    rintro _ m249 ⟨rfl, hIm249, gm249⟩
                                    have hFm249 : zFr W_206 m0 m249 := hF0.trans gm249 rfl
                                    have km249_70_822 : m249 70 822 = g0 := (gm249 70 822 rfl).trans hg0
                                    have km249_70_818 : m249 70 818 = f184 := (gm249 70 818 rfl).trans ef184
                                    have km249_70_820 : m249 70 820 = f232 := (gm249 70 820 rfl).trans ef232
                                    have fm249_70 : m249 70 = F70 := (funext fun k => gm249 70 k rfl).trans hG70
                                    show zW E (d) 206 182 [(2, 69), (0, a0), (0, a1), (1, ((0 + x26) + x193)), (9, 0), (1, ((0 + x27) + x194)), (9, 0), (1, x235), (9, 0), (1, x236), (9, 0), (1, ((0 + f184) + f232)), (9, 0), (0, ((((0 + 1) + 1) + 1) + 1)), (1, x239), (9, 0), (1, x240), (9, 0)] [] m249 Q
                                    refine zw_42 zr_206_182 ?_
                                    refine zw_push zr_206_196 ?_
                                    refine zw_R zr_206_197 (by decide) zm_206 (v := (0, 1)) rfl ?_
                                    rw [← hQ]; exact ⟨_, rfl, by omega, by omega, hIm249, hFm249, by omega⟩
                                · intro h251; omega
                              · intro h252; omega
                            · intro h253
                              refine zw_5 zr_206_93 rfl ?_
                              refine zw_6 zr_206_94 rfl ?_
                              refine zw_27 zr_206_96 (by omega) ?_
                              refine zw_13 (L' := [(2, 69), (0, a0), (0, a1), (1, (((0 + x26) + x193) + x239)), (9, 0), (1, ((0 + x27) + x194)), (9, 0), (1, x235), (9, 0), (1, x236), (9, 0), (1, ((0 + f184) + f232)), (9, 0), (0, (((0 + 1) + 1) + 1)), (1, x239), (9, 0), (1, x240), (9, 0)]) zr_206_97 (Nat.le_of_ble_eq_true rfl) rfl ?_
                              refine zw_6 zr_206_98 rfl ?_
                              refine zw_6 zr_206_100 rfl ?_
                              refine zw_27 zr_206_102 (by omega) ?_
                              refine zw_14 (L' := [(2, 69), (0, a0), (0, a1), (1, (((0 + x26) + x193) + x239)), (9, 0), (1, (((0 + x27) + x194) + x240)), (9, 0), (1, x235), (9, 0), (1, x236), (9, 0), (1, ((0 + f184) + f232)), (9, 0), (0, (((0 + 1) + 1) + 1)), (1, x239), (9, 0), (1, x240), (9, 0)]) zr_206_103 (Nat.le_of_ble_eq_true rfl) rfl ?_
                              refine zw_6 zr_206_105 rfl ?_
                              refine zw_6 zr_206_107 rfl ?_
                              refine zw_29h zr_206_109 ?_
                              intro x254 hx254a hx254b
                              refine zw_7 zr_206_110 rfl ?_
                              refine zw_46r (s := 70) zr_206_111 rfl rfl rfl rfl ?_
                              refine zw_push zr_206_114 ?_
                              refine zw_4 zr_206_117 rfl ?_
                              refine zw_16 zr_206_119 (by omega) ?_
                              obtain ⟨f255, ef255⟩ : ∃ v, m0 70 821 = v := ⟨_, rfl⟩
                              have bf255 : 1 ≤ m0 70 821 ∧ m0 70 821 ≤ 9 := ib_70_weight hI0 (by omega)
                              rw [ef255] at bf255
                              refine zw_48k (c := 70) (len := 826) zr_206_120 rfl rfl (by omega) (by omega) (show ((818 + (((0 + 1) + 1) + 1)) : Int).toNat = 821 by omega) ef255 ?_
                              refine zw_36 zr_206_121 ?_
                              refine zw_6 zr_206_122 rfl ?_
                              refine zw_29h zr_206_124 ?_
                              intro x256 hx256a hx256b
                              refine zw_6 zr_206_125 rfl ?_
                              refine zw_29h zr_206_127 ?_
                              intro x257 hx257a hx257b
                              refine zw_27h zr_206_128 ?_
                              intro x258 hx258a hx258b
                              refine zw_14 (L' := [(2, 69), (0, a0), (0, a1), (1, (((0 + x26) + x193) + x239)), (9, 0), (1, (((0 + x27) + x194) + x240)), (9, 0), (1, x258), (9, 0), (1, x236), (9, 0), (1, ((0 + f184) + f232)), (9, 0), (0, (((0 + 1) + 1) + 1)), (1, x239), (9, 0), (1, x240), (9, 0)]) zr_206_129 (Nat.le_of_ble_eq_true rfl) rfl ?_
                              refine zw_6 zr_206_131 rfl ?_
                              refine zw_6 zr_206_133 rfl ?_
                              refine zw_29p (A := 9801) (B := 99) zr_206_135 (by omega) (by omega) (by omega) (by omega) (by decide) ?_
                              intro x259 hx259a hx259b
                              refine zw_14 (L' := [(2, 69), (0, a0), (0, a1), (1, (((0 + x26) + x193) + x239)), (9, 0), (1, (((0 + x27) + x194) + x240)), (9, 0), (1, x258), (9, 0), (1, x259), (9, 0), (1, ((0 + f184) + f232)), (9, 0), (0, (((0 + 1) + 1) + 1)), (1, x239), (9, 0), (1, x240), (9, 0)]) zr_206_136 (Nat.le_of_ble_eq_true rfl) rfl ?_
                              refine zw_6 zr_206_138 rfl ?_
                              refine zw_7 zr_206_140 rfl ?_
                              refine zw_46r (s := 70) zr_206_141 rfl rfl rfl rfl ?_
                              refine zw_push zr_206_144 ?_
                              refine zw_4 zr_206_147 rfl ?_
                              refine zw_16 zr_206_149 (by omega) ?_
                              refine zw_48k (c := 70) (len := 826) zr_206_150 rfl rfl (by omega) (by omega) (show ((818 + (((0 + 1) + 1) + 1)) : Int).toNat = 821 by omega) ef255 ?_
                              refine zw_36 zr_206_151 ?_
                              refine zw_27 zr_206_152 (by omega) ?_
                              refine zw_14 (L' := [(2, 69), (0, a0), (0, a1), (1, (((0 + x26) + x193) + x239)), (9, 0), (1, (((0 + x27) + x194) + x240)), (9, 0), (1, x258), (9, 0), (1, x259), (9, 0), (1, (((0 + f184) + f232) + f255)), (9, 0), (0, (((0 + 1) + 1) + 1)), (1, x239), (9, 0), (1, x240), (9, 0)]) zr_206_153 (Nat.le_of_ble_eq_true rfl) rfl ?_
                              refine zw_15 (c := 1) (L' := [(2, 69), (0, a0), (0, a1), (1, (((0 + x26) + x193) + x239)), (9, 0), (1, (((0 + x27) + x194) + x240)), (9, 0), (1, x258), (9, 0), (1, x259), (9, 0), (1, (((0 + f184) + f232) + f255)), (9, 0), (0, ((((0 + 1) + 1) + 1) + 1)), (1, x239), (9, 0), (1, x240), (9, 0)]) zr_206_155 rfl (by decide) (by omega) rfl ?_
                              refine zw_42 zr_206_158 ?_
                              refine zw_4 zr_206_38 rfl ?_
                              refine zw_push zr_206_40 ?_
                              refine zw_41_3 zr_206_41 ?_ ?_
                              · intro h260
                                refine zw_6 zr_206_161 rfl ?_
                                refine zw_push zr_206_163 ?_
                                refine zw_39_4 zr_206_164 zr_206_165 ?_ ?_
                                · intro h261
                                  refine zw_3 zr_206_171 rfl ?_
                                  refine zw_40_4 zr_206_172 ?_ ?_
                                  · intro h262
                                    refine zw_7 zr_206_185 rfl ?_
                                    refine zw_6 zr_206_186 rfl ?_
                                    refine zw_6 zr_206_188 rfl ?_
                                    refine zw_6 zr_206_190 rfl ?_
                                    refine zw_29p (A := 970299) (B := 27) zr_206_192 (by omega) (by omega) (by omega) (by omega) (by decide) ?_
                                    intro x263 hx263a hx263b
                                    refine zw_C zr_206_193 (Or.inl rfl) zm_173 rfl rfl ⟨Nat.le_of_ble_eq_true rfl, Nat.le_of_ble_eq_true rfl, Nat.le_of_ble_eq_true rfl, rfl, by decide⟩ (by omega) (th_173 (d := d - 1) (by omega) hI0 (a0 := x258) (a1 := x263)      (by omega) (by omega) ) ?_
                                    rintro _ m264 ⟨rfl, hIm264, gm264⟩
                                    have hFm264 : zFr W_206 m0 m264 := hF0.trans gm264 rfl
                                    have km264_70_822 : m264 70 822 = g0 := (gm264 70 822 rfl).trans hg0
                                    have km264_70_818 : m264 70 818 = f184 := (gm264 70 818 rfl).trans ef184
                                    have km264_70_820 : m264 70 820 = f232 := (gm264 70 820 rfl).trans ef232
                                    have km264_70_821 : m264 70 821 = f255 := (gm264 70 821 rfl).trans ef255
                                    have fm264_70 : m264 70 = F70 := (funext fun k => gm264 70 k rfl).trans hG70
                                    show zW E (d) 206 196 [(2, 69), (0, a0), (0, a1), (1, (((0 + x26) + x193) + x239)), (9, 0), (1, (((0 + x27) + x194) + x240)), (9, 0), (1, x258), (9, 0), (1, x259), (9, 0), (1, (((0 + f184) + f232) + f255)), (9, 0), (0, ((((0 + 1) + 1) + 1) + 1)), (1, x239), (9, 0), (1, x240), (9, 0)] [] m264 Q
                                    refine zw_push zr_206_196 ?_
                                    refine zw_R zr_206_197 (by decide) zm_206 (v := (0, 1)) rfl ?_
                                    rw [← hQ]; exact ⟨_, rfl, by omega, by omega, hIm264, hFm264, by omega⟩
                                  · intro h266
                                    refine zw_7 zr_206_175 rfl ?_
                                    refine zw_5 zr_206_176 rfl ?_
                                    refine zw_6 zr_206_177 rfl ?_
                                    refine zw_C zr_206_179 (Or.inl rfl) zm_173 rfl rfl ⟨Nat.le_of_ble_eq_true rfl, Nat.le_of_ble_eq_true rfl, Nat.le_of_ble_eq_true rfl, rfl, by decide⟩ (by omega) (th_173 (d := d - 1) (by omega) hI0 (a0 := (((0 + x26) + x193) + x239)) (a1 := (((0 + x27) + x194) + x240))      (by omega) (by omega) ) ?_
                                    rintro _ m267 ⟨rfl, hIm267, gm267⟩
                                    have hFm267 : zFr W_206 m0 m267 := hF0.trans gm267 rfl
                                    have km267_70_822 : m267 70 822 = g0 := (gm267 70 822 rfl).trans hg0
                                    have km267_70_818 : m267 70 818 = f184 := (gm267 70 818 rfl).trans ef184
                                    have km267_70_820 : m267 70 820 = f232 := (gm267 70 820 rfl).trans ef232
                                    have km267_70_821 : m267 70 821 = f255 := (gm267 70 821 rfl).trans ef255
                                    have fm267_70 : m267 70 = F70 := (funext fun k => gm267 70 k rfl).trans hG70
                                    show zW E (d) 206 182 [(2, 69), (0, a0), (0, a1), (1, (((0 + x26) + x193) + x239)), (9, 0), (1, (((0 + x27) + x194) + x240)), (9, 0), (1, x258), (9, 0), (1, x259), (9, 0), (1, (((0 + f184) + f232) + f255)), (9, 0), (0, ((((0 + 1) + 1) + 1) + 1)), (1, x239), (9, 0), (1, x240), (9, 0)] [] m267 Q
                                    refine zw_42 zr_206_182 ?_
                                    refine zw_push zr_206_196 ?_
                                    refine zw_R zr_206_197 (by decide) zm_206 (v := (0, 1)) rfl ?_
                                    rw [← hQ]; exact ⟨_, rfl, by omega, by omega, hIm267, hFm267, by omega⟩
                                · intro h269; omega
                              · intro h270; omega
                    · intro h271
                      refine zw_5 zr_206_93 rfl ?_
                      refine zw_6 zr_206_94 rfl ?_
                      refine zw_27 zr_206_96 (by omega) ?_
                      refine zw_13 (L' := [(2, 69), (0, a0), (0, a1), (1, ((0 + x26) + x188)), (9, 0), (1, (0 + x27)), (9, 0), (1, ((0 * x27) + (x185 * 1))), (9, 0), (1, (1 * x27)), (9, 0), (1, (0 + f184)), (9, 0), (0, (0 + 1)), (1, x188), (9, 0), (1, x189), (9, 0)]) zr_206_97 (Nat.le_of_ble_eq_true rfl) rfl ?_
                      refine zw_6 zr_206_98 rfl ?_
                      refine zw_6 zr_206_100 rfl ?_
                      refine zw_27 zr_206_102 (by omega) ?_
                      refine zw_14 (L' := [(2, 69), (0, a0), (0, a1), (1, ((0 + x26) + x188)), (9, 0), (1, ((0 + x27) + x189)), (9, 0), (1, ((0 * x27) + (x185 * 1))), (9, 0), (1, (1 * x27)), (9, 0), (1, (0 + f184)), (9, 0), (0, (0 + 1)), (1, x188), (9, 0), (1, x189), (9, 0)]) zr_206_103 (Nat.le_of_ble_eq_true rfl) rfl ?_
                      refine zw_6 zr_206_105 rfl ?_
                      refine zw_6 zr_206_107 rfl ?_
                      refine zw_29h zr_206_109 ?_
                      intro x272 hx272a hx272b
                      refine zw_7 zr_206_110 rfl ?_
                      refine zw_46r (s := 70) zr_206_111 rfl rfl rfl rfl ?_
                      refine zw_push zr_206_114 ?_
                      refine zw_4 zr_206_117 rfl ?_
                      refine zw_16 zr_206_119 (by omega) ?_
                      obtain ⟨f273, ef273⟩ : ∃ v, m0 70 819 = v := ⟨_, rfl⟩
                      have bf273 : 1 ≤ m0 70 819 ∧ m0 70 819 ≤ 9 := ib_70_weight hI0 (by omega)
                      rw [ef273] at bf273
                      refine zw_48k (c := 70) (len := 826) zr_206_120 rfl rfl (by omega) (by omega) (show ((818 + (0 + 1)) : Int).toNat = 819 by omega) ef273 ?_
                      refine zw_36 zr_206_121 ?_
                      refine zw_6 zr_206_122 rfl ?_
                      refine zw_29h zr_206_124 ?_
                      intro x274 hx274a hx274b
                      refine zw_6 zr_206_125 rfl ?_
                      refine zw_29h zr_206_127 ?_
                      intro x275 hx275a hx275b
                      refine zw_27h zr_206_128 ?_
                      intro x276 hx276a hx276b
                      refine zw_14 (L' := [(2, 69), (0, a0), (0, a1), (1, ((0 + x26) + x188)), (9, 0), (1, ((0 + x27) + x189)), (9, 0), (1, x276), (9, 0), (1, (1 * x27)), (9, 0), (1, (0 + f184)), (9, 0), (0, (0 + 1)), (1, x188), (9, 0), (1, x189), (9, 0)]) zr_206_129 (Nat.le_of_ble_eq_true rfl) rfl ?_
                      refine zw_6 zr_206_131 rfl ?_
                      refine zw_6 zr_206_133 rfl ?_
                      refine zw_29p (A := 99) (B := 99) zr_206_135 (by omega) (by omega) (by omega) (by omega) (by decide) ?_
                      intro x277 hx277a hx277b
                      refine zw_14 (L' := [(2, 69), (0, a0), (0, a1), (1, ((0 + x26) + x188)), (9, 0), (1, ((0 + x27) + x189)), (9, 0), (1, x276), (9, 0), (1, x277), (9, 0), (1, (0 + f184)), (9, 0), (0, (0 + 1)), (1, x188), (9, 0), (1, x189), (9, 0)]) zr_206_136 (Nat.le_of_ble_eq_true rfl) rfl ?_
                      refine zw_6 zr_206_138 rfl ?_
                      refine zw_7 zr_206_140 rfl ?_
                      refine zw_46r (s := 70) zr_206_141 rfl rfl rfl rfl ?_
                      refine zw_push zr_206_144 ?_
                      refine zw_4 zr_206_147 rfl ?_
                      refine zw_16 zr_206_149 (by omega) ?_
                      refine zw_48k (c := 70) (len := 826) zr_206_150 rfl rfl (by omega) (by omega) (show ((818 + (0 + 1)) : Int).toNat = 819 by omega) ef273 ?_
                      refine zw_36 zr_206_151 ?_
                      refine zw_27 zr_206_152 (by omega) ?_
                      refine zw_14 (L' := [(2, 69), (0, a0), (0, a1), (1, ((0 + x26) + x188)), (9, 0), (1, ((0 + x27) + x189)), (9, 0), (1, x276), (9, 0), (1, x277), (9, 0), (1, ((0 + f184) + f273)), (9, 0), (0, (0 + 1)), (1, x188), (9, 0), (1, x189), (9, 0)]) zr_206_153 (Nat.le_of_ble_eq_true rfl) rfl ?_
                      refine zw_15 (c := 1) (L' := [(2, 69), (0, a0), (0, a1), (1, ((0 + x26) + x188)), (9, 0), (1, ((0 + x27) + x189)), (9, 0), (1, x276), (9, 0), (1, x277), (9, 0), (1, ((0 + f184) + f273)), (9, 0), (0, ((0 + 1) + 1)), (1, x188), (9, 0), (1, x189), (9, 0)]) zr_206_155 rfl (by decide) (by omega) rfl ?_
                      refine zw_42 zr_206_158 ?_
                      refine zw_4 zr_206_38 rfl ?_
                      refine zw_push zr_206_40 ?_
                      refine zw_41_3 zr_206_41 ?_ ?_
                      · intro h278; omega
                      · intro h279
                        refine zw_7 zr_206_44 rfl ?_
                        refine zw_46r (s := 70) zr_206_45 rfl rfl rfl rfl ?_
                        refine zw_push zr_206_48 ?_
                        refine zw_push zr_206_50 ?_
                        refine zw_3 zr_206_52 rfl ?_
                        refine zw_18 zr_206_53 (by omega) ?_
                        refine zw_16 zr_206_54 (by omega) ?_
                        refine zw_push zr_206_55 ?_
                        refine zw_4 zr_206_56 rfl ?_
                        refine zw_18 zr_206_58 (by omega) ?_
                        refine zw_16 zr_206_59 (by omega) ?_
                        refine zw_48 (c := 70) (len := 826) zr_206_60 rfl rfl (by omega) (by omega) ?_
                        intro x280 ex280
                        have bx280 := ib_70_moves hI0 (k := (((10 + (8 * a0)) + (2 * ((0 + 1) + 1)))).toNat) (by omega)
                        rw [← ex280] at bx280
                        have qx280 : x280 = F70 (((10 + (8 * a0)) + (2 * ((0 + 1) + 1)))).toNat := by rw [← hG70]; exact ex280
                        clear ex280
                        refine zw_36 zr_206_61 ?_
                        refine zw_14 (L' := [(2, 69), (0, a0), (0, a1), (1, ((0 + x26) + x188)), (9, 0), (1, ((0 + x27) + x189)), (9, 0), (1, x276), (9, 0), (1, x277), (9, 0), (1, ((0 + f184) + f273)), (9, 0), (0, ((0 + 1) + 1)), (1, x280), (9, 0), (1, x189), (9, 0)]) zr_206_62 (Nat.le_of_ble_eq_true rfl) rfl ?_
                        refine zw_7 zr_206_64 rfl ?_
                        refine zw_46r (s := 70) zr_206_65 rfl rfl rfl rfl ?_
                        refine zw_push zr_206_68 ?_
                        refine zw_push zr_206_70 ?_
                        refine zw_3 zr_206_72 rfl ?_
                        refine zw_18 zr_206_73 (by omega) ?_
                        refine zw_16 zr_206_74 (by omega) ?_
                        refine zw_push zr_206_75 ?_
                        refine zw_4 zr_206_76 rfl ?_
                        refine zw_18 zr_206_78 (by omega) ?_
                        refine zw_16 zr_206_79 (by omega) ?_
                        refine zw_push zr_206_80 ?_
                        refine zw_16 zr_206_81 (by omega) ?_
                        refine zw_48 (c := 70) (len := 826) zr_206_82 rfl rfl (by omega) (by omega) ?_
                        intro x281 ex281
                        have bx281 := ib_70_moves hI0 (k := ((((10 + (8 * a0)) + (2 * ((0 + 1) + 1))) + 1)).toNat) (by omega)
                        rw [← ex281] at bx281
                        have qx281 : x281 = F70 ((((10 + (8 * a0)) + (2 * ((0 + 1) + 1))) + 1)).toNat := by rw [← hG70]; exact ex281
                        clear ex281
                        refine zw_36 zr_206_83 ?_
                        refine zw_14 (L' := [(2, 69), (0, a0), (0, a1), (1, ((0 + x26) + x188)), (9, 0), (1, ((0 + x27) + x189)), (9, 0), (1, x276), (9, 0), (1, x277), (9, 0), (1, ((0 + f184) + f273)), (9, 0), (0, ((0 + 1) + 1)), (1, x280), (9, 0), (1, x281), (9, 0)]) zr_206_84 (Nat.le_of_ble_eq_true rfl) rfl ?_
                        refine zw_6 zr_206_86 rfl ?_
                        refine zw_push zr_206_88 ?_
                        refine zw_39_5 zr_206_89 zr_206_90 ?_ ?_
                        · intro h282
                          refine zw_15 (c := 1) (L' := [(2, 69), (0, a0), (0, a1), (1, ((0 + x26) + x188)), (9, 0), (1, ((0 + x27) + x189)), (9, 0), (1, x276), (9, 0), (1, x277), (9, 0), (1, ((0 + f184) + f273)), (9, 0), (0, (((0 + 1) + 1) + 1)), (1, x280), (9, 0), (1, x281), (9, 0)]) zr_206_155 rfl (by decide) (by omega) rfl ?_
                          refine zw_42 zr_206_158 ?_
                          refine zw_4 zr_206_38 rfl ?_
                          refine zw_push zr_206_40 ?_
                          refine zw_41_3 zr_206_41 ?_ ?_
                          · intro h283; omega
                          · intro h284
                            refine zw_7 zr_206_44 rfl ?_
                            refine zw_46r (s := 70) zr_206_45 rfl rfl rfl rfl ?_
                            refine zw_push zr_206_48 ?_
                            refine zw_push zr_206_50 ?_
                            refine zw_3 zr_206_52 rfl ?_
                            refine zw_18 zr_206_53 (by omega) ?_
                            refine zw_16 zr_206_54 (by omega) ?_
                            refine zw_push zr_206_55 ?_
                            refine zw_4 zr_206_56 rfl ?_
                            refine zw_18 zr_206_58 (by omega) ?_
                            refine zw_16 zr_206_59 (by omega) ?_
                            refine zw_48 (c := 70) (len := 826) zr_206_60 rfl rfl (by omega) (by omega) ?_
                            intro x285 ex285
                            have bx285 := ib_70_moves hI0 (k := (((10 + (8 * a0)) + (2 * (((0 + 1) + 1) + 1)))).toNat) (by omega)
                            rw [← ex285] at bx285
                            have qx285 : x285 = F70 (((10 + (8 * a0)) + (2 * (((0 + 1) + 1) + 1)))).toNat := by rw [← hG70]; exact ex285
                            clear ex285
                            refine zw_36 zr_206_61 ?_
                            refine zw_14 (L' := [(2, 69), (0, a0), (0, a1), (1, ((0 + x26) + x188)), (9, 0), (1, ((0 + x27) + x189)), (9, 0), (1, x276), (9, 0), (1, x277), (9, 0), (1, ((0 + f184) + f273)), (9, 0), (0, (((0 + 1) + 1) + 1)), (1, x285), (9, 0), (1, x281), (9, 0)]) zr_206_62 (Nat.le_of_ble_eq_true rfl) rfl ?_
                            refine zw_7 zr_206_64 rfl ?_
                            refine zw_46r (s := 70) zr_206_65 rfl rfl rfl rfl ?_
                            refine zw_push zr_206_68 ?_
                            refine zw_push zr_206_70 ?_
                            refine zw_3 zr_206_72 rfl ?_
                            refine zw_18 zr_206_73 (by omega) ?_
                            refine zw_16 zr_206_74 (by omega) ?_
                            refine zw_push zr_206_75 ?_
                            refine zw_4 zr_206_76 rfl ?_
                            refine zw_18 zr_206_78 (by omega) ?_
                            refine zw_16 zr_206_79 (by omega) ?_
                            refine zw_push zr_206_80 ?_
                            refine zw_16 zr_206_81 (by omega) ?_
                            refine zw_48 (c := 70) (len := 826) zr_206_82 rfl rfl (by omega) (by omega) ?_
                            intro x286 ex286
                            have bx286 := ib_70_moves hI0 (k := ((((10 + (8 * a0)) + (2 * (((0 + 1) + 1) + 1))) + 1)).toNat) (by omega)
                            rw [← ex286] at bx286
                            have qx286 : x286 = F70 ((((10 + (8 * a0)) + (2 * (((0 + 1) + 1) + 1))) + 1)).toNat := by rw [← hG70]; exact ex286
                            clear ex286
                            refine zw_36 zr_206_83 ?_
                            refine zw_14 (L' := [(2, 69), (0, a0), (0, a1), (1, ((0 + x26) + x188)), (9, 0), (1, ((0 + x27) + x189)), (9, 0), (1, x276), (9, 0), (1, x277), (9, 0), (1, ((0 + f184) + f273)), (9, 0), (0, (((0 + 1) + 1) + 1)), (1, x285), (9, 0), (1, x286), (9, 0)]) zr_206_84 (Nat.le_of_ble_eq_true rfl) rfl ?_
                            refine zw_6 zr_206_86 rfl ?_
                            refine zw_push zr_206_88 ?_
                            refine zw_39_5 zr_206_89 zr_206_90 ?_ ?_
                            · intro h287
                              refine zw_15 (c := 1) (L' := [(2, 69), (0, a0), (0, a1), (1, ((0 + x26) + x188)), (9, 0), (1, ((0 + x27) + x189)), (9, 0), (1, x276), (9, 0), (1, x277), (9, 0), (1, ((0 + f184) + f273)), (9, 0), (0, ((((0 + 1) + 1) + 1) + 1)), (1, x285), (9, 0), (1, x286), (9, 0)]) zr_206_155 rfl (by decide) (by omega) rfl ?_
                              refine zw_42 zr_206_158 ?_
                              refine zw_4 zr_206_38 rfl ?_
                              refine zw_push zr_206_40 ?_
                              refine zw_41_3 zr_206_41 ?_ ?_
                              · intro h288
                                refine zw_6 zr_206_161 rfl ?_
                                refine zw_push zr_206_163 ?_
                                refine zw_39_4 zr_206_164 zr_206_165 ?_ ?_
                                · intro h289
                                  refine zw_3 zr_206_171 rfl ?_
                                  refine zw_40_4 zr_206_172 ?_ ?_
                                  · intro h290
                                    refine zw_7 zr_206_185 rfl ?_
                                    refine zw_6 zr_206_186 rfl ?_
                                    refine zw_6 zr_206_188 rfl ?_
                                    refine zw_6 zr_206_190 rfl ?_
                                    refine zw_29p (A := 9801) (B := 18) zr_206_192 (by omega) (by omega) (by omega) (by omega) (by decide) ?_
                                    intro x291 hx291a hx291b
                                    refine zw_C zr_206_193 (Or.inl rfl) zm_173 rfl rfl ⟨Nat.le_of_ble_eq_true rfl, Nat.le_of_ble_eq_true rfl, Nat.le_of_ble_eq_true rfl, rfl, by decide⟩ (by omega) (th_173 (d := d - 1) (by omega) hI0 (a0 := x276) (a1 := x291)      (by omega) (by omega) ) ?_
                                    rintro _ m292 ⟨rfl, hIm292, gm292⟩
                                    have hFm292 : zFr W_206 m0 m292 := hF0.trans gm292 rfl
                                    have km292_70_822 : m292 70 822 = g0 := (gm292 70 822 rfl).trans hg0
                                    have km292_70_818 : m292 70 818 = f184 := (gm292 70 818 rfl).trans ef184
                                    have km292_70_819 : m292 70 819 = f273 := (gm292 70 819 rfl).trans ef273
                                    have fm292_70 : m292 70 = F70 := (funext fun k => gm292 70 k rfl).trans hG70
                                    show zW E (d) 206 196 [(2, 69), (0, a0), (0, a1), (1, ((0 + x26) + x188)), (9, 0), (1, ((0 + x27) + x189)), (9, 0), (1, x276), (9, 0), (1, x277), (9, 0), (1, ((0 + f184) + f273)), (9, 0), (0, ((((0 + 1) + 1) + 1) + 1)), (1, x285), (9, 0), (1, x286), (9, 0)] [] m292 Q
                                    refine zw_push zr_206_196 ?_
                                    refine zw_R zr_206_197 (by decide) zm_206 (v := (0, 1)) rfl ?_
                                    rw [← hQ]; exact ⟨_, rfl, by omega, by omega, hIm292, hFm292, by omega⟩
                                  · intro h294
                                    refine zw_7 zr_206_175 rfl ?_
                                    refine zw_5 zr_206_176 rfl ?_
                                    refine zw_6 zr_206_177 rfl ?_
                                    refine zw_C zr_206_179 (Or.inl rfl) zm_173 rfl rfl ⟨Nat.le_of_ble_eq_true rfl, Nat.le_of_ble_eq_true rfl, Nat.le_of_ble_eq_true rfl, rfl, by decide⟩ (by omega) (th_173 (d := d - 1) (by omega) hI0 (a0 := ((0 + x26) + x188)) (a1 := ((0 + x27) + x189))      (by omega) (by omega) ) ?_
                                    rintro _ m295 ⟨rfl, hIm295, gm295⟩
                                    have hFm295 : zFr W_206 m0 m295 := hF0.trans gm295 rfl
                                    have km295_70_822 : m295 70 822 = g0 := (gm295 70 822 rfl).trans hg0
                                    have km295_70_818 : m295 70 818 = f184 := (gm295 70 818 rfl).trans ef184
                                    have km295_70_819 : m295 70 819 = f273 := (gm295 70 819 rfl).trans ef273
                                    have fm295_70 : m295 70 = F70 := (funext fun k => gm295 70 k rfl).trans hG70
                                    show zW E (d) 206 182 [(2, 69), (0, a0), (0, a1), (1, ((0 + x26) + x188)), (9, 0), (1, ((0 + x27) + x189)), (9, 0), (1, x276), (9, 0), (1, x277), (9, 0), (1, ((0 + f184) + f273)), (9, 0), (0, ((((0 + 1) + 1) + 1) + 1)), (1, x285), (9, 0), (1, x286), (9, 0)] [] m295 Q
                                    refine zw_42 zr_206_182 ?_
                                    refine zw_push zr_206_196 ?_
                                    refine zw_R zr_206_197 (by decide) zm_206 (v := (0, 1)) rfl ?_
                                    rw [← hQ]; exact ⟨_, rfl, by omega, by omega, hIm295, hFm295, by omega⟩
                                · intro h297; omega
                              · intro h298; omega
                            · intro h299
                              refine zw_5 zr_206_93 rfl ?_
                              refine zw_6 zr_206_94 rfl ?_
                              refine zw_27 zr_206_96 (by omega) ?_
                              refine zw_13 (L' := [(2, 69), (0, a0), (0, a1), (1, (((0 + x26) + x188) + x285)), (9, 0), (1, ((0 + x27) + x189)), (9, 0), (1, x276), (9, 0), (1, x277), (9, 0), (1, ((0 + f184) + f273)), (9, 0), (0, (((0 + 1) + 1) + 1)), (1, x285), (9, 0), (1, x286), (9, 0)]) zr_206_97 (Nat.le_of_ble_eq_true rfl) rfl ?_
                              refine zw_6 zr_206_98 rfl ?_
                              refine zw_6 zr_206_100 rfl ?_
                              refine zw_27 zr_206_102 (by omega) ?_
                              refine zw_14 (L' := [(2, 69), (0, a0), (0, a1), (1, (((0 + x26) + x188) + x285)), (9, 0), (1, (((0 + x27) + x189) + x286)), (9, 0), (1, x276), (9, 0), (1, x277), (9, 0), (1, ((0 + f184) + f273)), (9, 0), (0, (((0 + 1) + 1) + 1)), (1, x285), (9, 0), (1, x286), (9, 0)]) zr_206_103 (Nat.le_of_ble_eq_true rfl) rfl ?_
                              refine zw_6 zr_206_105 rfl ?_
                              refine zw_6 zr_206_107 rfl ?_
                              refine zw_29h zr_206_109 ?_
                              intro x300 hx300a hx300b
                              refine zw_7 zr_206_110 rfl ?_
                              refine zw_46r (s := 70) zr_206_111 rfl rfl rfl rfl ?_
                              refine zw_push zr_206_114 ?_
                              refine zw_4 zr_206_117 rfl ?_
                              refine zw_16 zr_206_119 (by omega) ?_
                              obtain ⟨f301, ef301⟩ : ∃ v, m0 70 821 = v := ⟨_, rfl⟩
                              have bf301 : 1 ≤ m0 70 821 ∧ m0 70 821 ≤ 9 := ib_70_weight hI0 (by omega)
                              rw [ef301] at bf301
                              refine zw_48k (c := 70) (len := 826) zr_206_120 rfl rfl (by omega) (by omega) (show ((818 + (((0 + 1) + 1) + 1)) : Int).toNat = 821 by omega) ef301 ?_
                              refine zw_36 zr_206_121 ?_
                              refine zw_6 zr_206_122 rfl ?_
                              refine zw_29h zr_206_124 ?_
                              intro x302 hx302a hx302b
                              refine zw_6 zr_206_125 rfl ?_
                              refine zw_29h zr_206_127 ?_
                              intro x303 hx303a hx303b
                              refine zw_27h zr_206_128 ?_
                              intro x304 hx304a hx304b
                              refine zw_14 (L' := [(2, 69), (0, a0), (0, a1), (1, (((0 + x26) + x188) + x285)), (9, 0), (1, (((0 + x27) + x189) + x286)), (9, 0), (1, x304), (9, 0), (1, x277), (9, 0), (1, ((0 + f184) + f273)), (9, 0), (0, (((0 + 1) + 1) + 1)), (1, x285), (9, 0), (1, x286), (9, 0)]) zr_206_129 (Nat.le_of_ble_eq_true rfl) rfl ?_
                              refine zw_6 zr_206_131 rfl ?_
                              refine zw_6 zr_206_133 rfl ?_
                              refine zw_29p (A := 9801) (B := 99) zr_206_135 (by omega) (by omega) (by omega) (by omega) (by decide) ?_
                              intro x305 hx305a hx305b
                              refine zw_14 (L' := [(2, 69), (0, a0), (0, a1), (1, (((0 + x26) + x188) + x285)), (9, 0), (1, (((0 + x27) + x189) + x286)), (9, 0), (1, x304), (9, 0), (1, x305), (9, 0), (1, ((0 + f184) + f273)), (9, 0), (0, (((0 + 1) + 1) + 1)), (1, x285), (9, 0), (1, x286), (9, 0)]) zr_206_136 (Nat.le_of_ble_eq_true rfl) rfl ?_
                              refine zw_6 zr_206_138 rfl ?_
                              refine zw_7 zr_206_140 rfl ?_
                              refine zw_46r (s := 70) zr_206_141 rfl rfl rfl rfl ?_
                              refine zw_push zr_206_144 ?_
                              refine zw_4 zr_206_147 rfl ?_
                              refine zw_16 zr_206_149 (by omega) ?_
                              refine zw_48k (c := 70) (len := 826) zr_206_150 rfl rfl (by omega) (by omega) (show ((818 + (((0 + 1) + 1) + 1)) : Int).toNat = 821 by omega) ef301 ?_
                              refine zw_36 zr_206_151 ?_
                              refine zw_27 zr_206_152 (by omega) ?_
                              refine zw_14 (L' := [(2, 69), (0, a0), (0, a1), (1, (((0 + x26) + x188) + x285)), (9, 0), (1, (((0 + x27) + x189) + x286)), (9, 0), (1, x304), (9, 0), (1, x305), (9, 0), (1, (((0 + f184) + f273) + f301)), (9, 0), (0, (((0 + 1) + 1) + 1)), (1, x285), (9, 0), (1, x286), (9, 0)]) zr_206_153 (Nat.le_of_ble_eq_true rfl) rfl ?_
                              refine zw_15 (c := 1) (L' := [(2, 69), (0, a0), (0, a1), (1, (((0 + x26) + x188) + x285)), (9, 0), (1, (((0 + x27) + x189) + x286)), (9, 0), (1, x304), (9, 0), (1, x305), (9, 0), (1, (((0 + f184) + f273) + f301)), (9, 0), (0, ((((0 + 1) + 1) + 1) + 1)), (1, x285), (9, 0), (1, x286), (9, 0)]) zr_206_155 rfl (by decide) (by omega) rfl ?_
                              refine zw_42 zr_206_158 ?_
                              refine zw_4 zr_206_38 rfl ?_
                              refine zw_push zr_206_40 ?_
                              refine zw_41_3 zr_206_41 ?_ ?_
                              · intro h306
                                refine zw_6 zr_206_161 rfl ?_
                                refine zw_push zr_206_163 ?_
                                refine zw_39_4 zr_206_164 zr_206_165 ?_ ?_
                                · intro h307
                                  refine zw_3 zr_206_171 rfl ?_
                                  refine zw_40_4 zr_206_172 ?_ ?_
                                  · intro h308
                                    refine zw_7 zr_206_185 rfl ?_
                                    refine zw_6 zr_206_186 rfl ?_
                                    refine zw_6 zr_206_188 rfl ?_
                                    refine zw_6 zr_206_190 rfl ?_
                                    refine zw_29p (A := 970299) (B := 27) zr_206_192 (by omega) (by omega) (by omega) (by omega) (by decide) ?_
                                    intro x309 hx309a hx309b
                                    refine zw_C zr_206_193 (Or.inl rfl) zm_173 rfl rfl ⟨Nat.le_of_ble_eq_true rfl, Nat.le_of_ble_eq_true rfl, Nat.le_of_ble_eq_true rfl, rfl, by decide⟩ (by omega) (th_173 (d := d - 1) (by omega) hI0 (a0 := x304) (a1 := x309)      (by omega) (by omega) ) ?_
                                    rintro _ m310 ⟨rfl, hIm310, gm310⟩
                                    have hFm310 : zFr W_206 m0 m310 := hF0.trans gm310 rfl
                                    have km310_70_822 : m310 70 822 = g0 := (gm310 70 822 rfl).trans hg0
                                    have km310_70_818 : m310 70 818 = f184 := (gm310 70 818 rfl).trans ef184
                                    have km310_70_819 : m310 70 819 = f273 := (gm310 70 819 rfl).trans ef273
                                    have km310_70_821 : m310 70 821 = f301 := (gm310 70 821 rfl).trans ef301
                                    have fm310_70 : m310 70 = F70 := (funext fun k => gm310 70 k rfl).trans hG70
                                    show zW E (d) 206 196 [(2, 69), (0, a0), (0, a1), (1, (((0 + x26) + x188) + x285)), (9, 0), (1, (((0 + x27) + x189) + x286)), (9, 0), (1, x304), (9, 0), (1, x305), (9, 0), (1, (((0 + f184) + f273) + f301)), (9, 0), (0, ((((0 + 1) + 1) + 1) + 1)), (1, x285), (9, 0), (1, x286), (9, 0)] [] m310 Q
                                    refine zw_push zr_206_196 ?_
                                    refine zw_R zr_206_197 (by decide) zm_206 (v := (0, 1)) rfl ?_
                                    rw [← hQ]; exact ⟨_, rfl, by omega, by omega, hIm310, hFm310, by omega⟩
                                  · intro h312
                                    refine zw_7 zr_206_175 rfl ?_
                                    refine zw_5 zr_206_176 rfl ?_
                                    refine zw_6 zr_206_177 rfl ?_
                                    refine zw_C zr_206_179 (Or.inl rfl) zm_173 rfl rfl ⟨Nat.le_of_ble_eq_true rfl, Nat.le_of_ble_eq_true rfl, Nat.le_of_ble_eq_true rfl, rfl, by decide⟩ (by omega) (th_173 (d := d - 1) (by omega) hI0 (a0 := (((0 + x26) + x188) + x285)) (a1 := (((0 + x27) + x189) + x286))      (by omega) (by omega) ) ?_
                                    rintro _ m313 ⟨rfl, hIm313, gm313⟩
                                    have hFm313 : zFr W_206 m0 m313 := hF0.trans gm313 rfl
                                    have km313_70_822 : m313 70 822 = g0 := (gm313 70 822 rfl).trans hg0
                                    have km313_70_818 : m313 70 818 = f184 := (gm313 70 818 rfl).trans ef184
                                    have km313_70_819 : m313 70 819 = f273 := (gm313 70 819 rfl).trans ef273
                                    have km313_70_821 : m313 70 821 = f301 := (gm313 70 821 rfl).trans ef301
                                    have fm313_70 : m313 70 = F70 := (funext fun k => gm313 70 k rfl).trans hG70
                                    show zW E (d) 206 182 [(2, 69), (0, a0), (0, a1), (1, (((0 + x26) + x188) + x285)), (9, 0), (1, (((0 + x27) + x189) + x286)), (9, 0), (1, x304), (9, 0), (1, x305), (9, 0), (1, (((0 + f184) + f273) + f301)), (9, 0), (0, ((((0 + 1) + 1) + 1) + 1)), (1, x285), (9, 0), (1, x286), (9, 0)] [] m313 Q
                                    refine zw_42 zr_206_182 ?_
                                    refine zw_push zr_206_196 ?_
                                    refine zw_R zr_206_197 (by decide) zm_206 (v := (0, 1)) rfl ?_
                                    rw [← hQ]; exact ⟨_, rfl, by omega, by omega, hIm313, hFm313, by omega⟩
                                · intro h315; omega
                              · intro h316; omega
                        · intro h317
                          refine zw_5 zr_206_93 rfl ?_
                          refine zw_6 zr_206_94 rfl ?_
                          refine zw_27 zr_206_96 (by omega) ?_
                          refine zw_13 (L' := [(2, 69), (0, a0), (0, a1), (1, (((0 + x26) + x188) + x280)), (9, 0), (1, ((0 + x27) + x189)), (9, 0), (1, x276), (9, 0), (1, x277), (9, 0), (1, ((0 + f184) + f273)), (9, 0), (0, ((0 + 1) + 1)), (1, x280), (9, 0), (1, x281), (9, 0)]) zr_206_97 (Nat.le_of_ble_eq_true rfl) rfl ?_
                          refine zw_6 zr_206_98 rfl ?_
                          refine zw_6 zr_206_100 rfl ?_
                          refine zw_27 zr_206_102 (by omega) ?_
                          refine zw_14 (L' := [(2, 69), (0, a0), (0, a1), (1, (((0 + x26) + x188) + x280)), (9, 0), (1, (((0 + x27) + x189) + x281)), (9, 0), (1, x276), (9, 0), (1, x277), (9, 0), (1, ((0 + f184) + f273)), (9, 0), (0, ((0 + 1) + 1)), (1, x280), (9, 0), (1, x281), (9, 0)]) zr_206_103 (Nat.le_of_ble_eq_true rfl) rfl ?_
                          refine zw_6 zr_206_105 rfl ?_
                          refine zw_6 zr_206_107 rfl ?_
                          refine zw_29h zr_206_109 ?_
                          intro x318 hx318a hx318b
                          refine zw_7 zr_206_110 rfl ?_
                          refine zw_46r (s := 70) zr_206_111 rfl rfl rfl rfl ?_
                          refine zw_push zr_206_114 ?_
                          refine zw_4 zr_206_117 rfl ?_
                          refine zw_16 zr_206_119 (by omega) ?_
                          obtain ⟨f319, ef319⟩ : ∃ v, m0 70 820 = v := ⟨_, rfl⟩
                          have bf319 : 1 ≤ m0 70 820 ∧ m0 70 820 ≤ 9 := ib_70_weight hI0 (by omega)
                          rw [ef319] at bf319
                          refine zw_48k (c := 70) (len := 826) zr_206_120 rfl rfl (by omega) (by omega) (show ((818 + ((0 + 1) + 1)) : Int).toNat = 820 by omega) ef319 ?_
                          refine zw_36 zr_206_121 ?_
                          refine zw_6 zr_206_122 rfl ?_
                          refine zw_29h zr_206_124 ?_
                          intro x320 hx320a hx320b
                          refine zw_6 zr_206_125 rfl ?_
                          refine zw_29h zr_206_127 ?_
                          intro x321 hx321a hx321b
                          refine zw_27h zr_206_128 ?_
                          intro x322 hx322a hx322b
                          refine zw_14 (L' := [(2, 69), (0, a0), (0, a1), (1, (((0 + x26) + x188) + x280)), (9, 0), (1, (((0 + x27) + x189) + x281)), (9, 0), (1, x322), (9, 0), (1, x277), (9, 0), (1, ((0 + f184) + f273)), (9, 0), (0, ((0 + 1) + 1)), (1, x280), (9, 0), (1, x281), (9, 0)]) zr_206_129 (Nat.le_of_ble_eq_true rfl) rfl ?_
                          refine zw_6 zr_206_131 rfl ?_
                          refine zw_6 zr_206_133 rfl ?_
                          refine zw_29p (A := 9801) (B := 99) zr_206_135 (by omega) (by omega) (by omega) (by omega) (by decide) ?_
                          intro x323 hx323a hx323b
                          refine zw_14 (L' := [(2, 69), (0, a0), (0, a1), (1, (((0 + x26) + x188) + x280)), (9, 0), (1, (((0 + x27) + x189) + x281)), (9, 0), (1, x322), (9, 0), (1, x323), (9, 0), (1, ((0 + f184) + f273)), (9, 0), (0, ((0 + 1) + 1)), (1, x280), (9, 0), (1, x281), (9, 0)]) zr_206_136 (Nat.le_of_ble_eq_true rfl) rfl ?_
                          refine zw_6 zr_206_138 rfl ?_
                          refine zw_7 zr_206_140 rfl ?_
                          refine zw_46r (s := 70) zr_206_141 rfl rfl rfl rfl ?_
                          refine zw_push zr_206_144 ?_
                          refine zw_4 zr_206_147 rfl ?_
                          refine zw_16 zr_206_149 (by omega) ?_
                          refine zw_48k (c := 70) (len := 826) zr_206_150 rfl rfl (by omega) (by omega) (show ((818 + ((0 + 1) + 1)) : Int).toNat = 820 by omega) ef319 ?_
                          refine zw_36 zr_206_151 ?_
                          refine zw_27 zr_206_152 (by omega) ?_
                          refine zw_14 (L' := [(2, 69), (0, a0), (0, a1), (1, (((0 + x26) + x188) + x280)), (9, 0), (1, (((0 + x27) + x189) + x281)), (9, 0), (1, x322), (9, 0), (1, x323), (9, 0), (1, (((0 + f184) + f273) + f319)), (9, 0), (0, ((0 + 1) + 1)), (1, x280), (9, 0), (1, x281), (9, 0)]) zr_206_153 (Nat.le_of_ble_eq_true rfl) rfl ?_
                          refine zw_15 (c := 1) (L' := [(2, 69), (0, a0), (0, a1), (1, (((0 + x26) + x188) + x280)), (9, 0), (1, (((0 + x27) + x189) + x281)), (9, 0), (1, x322), (9, 0), (1, x323), (9, 0), (1, (((0 + f184) + f273) + f319)), (9, 0), (0, (((0 + 1) + 1) + 1)), (1, x280), (9, 0), (1, x281), (9, 0)]) zr_206_155 rfl (by decide) (by omega) rfl ?_
                          refine zw_42 zr_206_158 ?_
                          refine zw_4 zr_206_38 rfl ?_
                          refine zw_push zr_206_40 ?_
                          refine zw_41_3 zr_206_41 ?_ ?_
                          · intro h324; omega
                          · intro h325
                            refine zw_7 zr_206_44 rfl ?_
                            refine zw_46r (s := 70) zr_206_45 rfl rfl rfl rfl ?_
                            refine zw_push zr_206_48 ?_
                            refine zw_push zr_206_50 ?_
                            refine zw_3 zr_206_52 rfl ?_
                            refine zw_18 zr_206_53 (by omega) ?_
                            refine zw_16 zr_206_54 (by omega) ?_
                            refine zw_push zr_206_55 ?_
                            refine zw_4 zr_206_56 rfl ?_
                            refine zw_18 zr_206_58 (by omega) ?_
                            refine zw_16 zr_206_59 (by omega) ?_
                            refine zw_48 (c := 70) (len := 826) zr_206_60 rfl rfl (by omega) (by omega) ?_
                            intro x326 ex326
                            have bx326 := ib_70_moves hI0 (k := (((10 + (8 * a0)) + (2 * (((0 + 1) + 1) + 1)))).toNat) (by omega)
                            rw [← ex326] at bx326
                            have qx326 : x326 = F70 (((10 + (8 * a0)) + (2 * (((0 + 1) + 1) + 1)))).toNat := by rw [← hG70]; exact ex326
                            clear ex326
                            refine zw_36 zr_206_61 ?_
                            refine zw_14 (L' := [(2, 69), (0, a0), (0, a1), (1, (((0 + x26) + x188) + x280)), (9, 0), (1, (((0 + x27) + x189) + x281)), (9, 0), (1, x322), (9, 0), (1, x323), (9, 0), (1, (((0 + f184) + f273) + f319)), (9, 0), (0, (((0 + 1) + 1) + 1)), (1, x326), (9, 0), (1, x281), (9, 0)]) zr_206_62 (Nat.le_of_ble_eq_true rfl) rfl ?_
                            refine zw_7 zr_206_64 rfl ?_
                            refine zw_46r (s := 70) zr_206_65 rfl rfl rfl rfl ?_
                            refine zw_push zr_206_68 ?_
                            refine zw_push zr_206_70 ?_
                            refine zw_3 zr_206_72 rfl ?_
                            refine zw_18 zr_206_73 (by omega) ?_
                            refine zw_16 zr_206_74 (by omega) ?_
                            refine zw_push zr_206_75 ?_
                            refine zw_4 zr_206_76 rfl ?_
                            refine zw_18 zr_206_78 (by omega) ?_
                            refine zw_16 zr_206_79 (by omega) ?_
                            refine zw_push zr_206_80 ?_
                            refine zw_16 zr_206_81 (by omega) ?_
                            refine zw_48 (c := 70) (len := 826) zr_206_82 rfl rfl (by omega) (by omega) ?_
                            intro x327 ex327
                            have bx327 := ib_70_moves hI0 (k := ((((10 + (8 * a0)) + (2 * (((0 + 1) + 1) + 1))) + 1)).toNat) (by omega)
                            rw [← ex327] at bx327
                            have qx327 : x327 = F70 ((((10 + (8 * a0)) + (2 * (((0 + 1) + 1) + 1))) + 1)).toNat := by rw [← hG70]; exact ex327
                            clear ex327
                            refine zw_36 zr_206_83 ?_
                            refine zw_14 (L' := [(2, 69), (0, a0), (0, a1), (1, (((0 + x26) + x188) + x280)), (9, 0), (1, (((0 + x27) + x189) + x281)), (9, 0), (1, x322), (9, 0), (1, x323), (9, 0), (1, (((0 + f184) + f273) + f319)), (9, 0), (0, (((0 + 1) + 1) + 1)), (1, x326), (9, 0), (1, x327), (9, 0)]) zr_206_84 (Nat.le_of_ble_eq_true rfl) rfl ?_
                            refine zw_6 zr_206_86 rfl ?_
                            refine zw_push zr_206_88 ?_
                            refine zw_39_5 zr_206_89 zr_206_90 ?_ ?_
                            · intro h328
                              refine zw_15 (c := 1) (L' := [(2, 69), (0, a0), (0, a1), (1, (((0 + x26) + x188) + x280)), (9, 0), (1, (((0 + x27) + x189) + x281)), (9, 0), (1, x322), (9, 0), (1, x323), (9, 0), (1, (((0 + f184) + f273) + f319)), (9, 0), (0, ((((0 + 1) + 1) + 1) + 1)), (1, x326), (9, 0), (1, x327), (9, 0)]) zr_206_155 rfl (by decide) (by omega) rfl ?_
                              refine zw_42 zr_206_158 ?_
                              refine zw_4 zr_206_38 rfl ?_
                              refine zw_push zr_206_40 ?_
                              refine zw_41_3 zr_206_41 ?_ ?_
                              · intro h329
                                refine zw_6 zr_206_161 rfl ?_
                                refine zw_push zr_206_163 ?_
                                refine zw_39_4 zr_206_164 zr_206_165 ?_ ?_
                                · intro h330
                                  refine zw_3 zr_206_171 rfl ?_
                                  refine zw_40_4 zr_206_172 ?_ ?_
                                  · intro h331
                                    refine zw_7 zr_206_185 rfl ?_
                                    refine zw_6 zr_206_186 rfl ?_
                                    refine zw_6 zr_206_188 rfl ?_
                                    refine zw_6 zr_206_190 rfl ?_
                                    refine zw_29p (A := 970299) (B := 27) zr_206_192 (by omega) (by omega) (by omega) (by omega) (by decide) ?_
                                    intro x332 hx332a hx332b
                                    refine zw_C zr_206_193 (Or.inl rfl) zm_173 rfl rfl ⟨Nat.le_of_ble_eq_true rfl, Nat.le_of_ble_eq_true rfl, Nat.le_of_ble_eq_true rfl, rfl, by decide⟩ (by omega) (th_173 (d := d - 1) (by omega) hI0 (a0 := x322) (a1 := x332)      (by omega) (by omega) ) ?_
                                    rintro _ m333 ⟨rfl, hIm333, gm333⟩
                                    have hFm333 : zFr W_206 m0 m333 := hF0.trans gm333 rfl
                                    have km333_70_822 : m333 70 822 = g0 := (gm333 70 822 rfl).trans hg0
                                    have km333_70_818 : m333 70 818 = f184 := (gm333 70 818 rfl).trans ef184
                                    have km333_70_819 : m333 70 819 = f273 := (gm333 70 819 rfl).trans ef273
                                    have km333_70_820 : m333 70 820 = f319 := (gm333 70 820 rfl).trans ef319
                                    have fm333_70 : m333 70 = F70 := (funext fun k => gm333 70 k rfl).trans hG70
                                    show zW E (d) 206 196 [(2, 69), (0, a0), (0, a1), (1, (((0 + x26) + x188) + x280)), (9, 0), (1, (((0 + x27) + x189) + x281)), (9, 0), (1, x322), (9, 0), (1, x323), (9, 0), (1, (((0 + f184) + f273) + f319)), (9, 0), (0, ((((0 + 1) + 1) + 1) + 1)), (1, x326), (9, 0), (1, x327), (9, 0)] [] m333 Q
                                    refine zw_push zr_206_196 ?_
                                    refine zw_R zr_206_197 (by decide) zm_206 (v := (0, 1)) rfl ?_
                                    rw [← hQ]; exact ⟨_, rfl, by omega, by omega, hIm333, hFm333, by omega⟩
                                  · intro h335
                                    refine zw_7 zr_206_175 rfl ?_
                                    refine zw_5 zr_206_176 rfl ?_
                                    refine zw_6 zr_206_177 rfl ?_
                                    refine zw_C zr_206_179 (Or.inl rfl) zm_173 rfl rfl ⟨Nat.le_of_ble_eq_true rfl, Nat.le_of_ble_eq_true rfl, Nat.le_of_ble_eq_true rfl, rfl, by decide⟩ (by omega) (th_173 (d := d - 1) (by omega) hI0 (a0 := (((0 + x26) + x188) + x280)) (a1 := (((0 + x27) + x189) + x281))      (by omega) (by omega) ) ?_
                                    rintro _ m336 ⟨rfl, hIm336, gm336⟩
                                    have hFm336 : zFr W_206 m0 m336 := hF0.trans gm336 rfl
                                    have km336_70_822 : m336 70 822 = g0 := (gm336 70 822 rfl).trans hg0
                                    have km336_70_818 : m336 70 818 = f184 := (gm336 70 818 rfl).trans ef184
                                    have km336_70_819 : m336 70 819 = f273 := (gm336 70 819 rfl).trans ef273
                                    have km336_70_820 : m336 70 820 = f319 := (gm336 70 820 rfl).trans ef319
                                    have fm336_70 : m336 70 = F70 := (funext fun k => gm336 70 k rfl).trans hG70
                                    show zW E (d) 206 182 [(2, 69), (0, a0), (0, a1), (1, (((0 + x26) + x188) + x280)), (9, 0), (1, (((0 + x27) + x189) + x281)), (9, 0), (1, x322), (9, 0), (1, x323), (9, 0), (1, (((0 + f184) + f273) + f319)), (9, 0), (0, ((((0 + 1) + 1) + 1) + 1)), (1, x326), (9, 0), (1, x327), (9, 0)] [] m336 Q
                                    refine zw_42 zr_206_182 ?_
                                    refine zw_push zr_206_196 ?_
                                    refine zw_R zr_206_197 (by decide) zm_206 (v := (0, 1)) rfl ?_
                                    rw [← hQ]; exact ⟨_, rfl, by omega, by omega, hIm336, hFm336, by omega⟩
                                · intro h338; omega
                              · intro h339; omega
                            · intro h340
                              refine zw_5 zr_206_93 rfl ?_
                              refine zw_6 zr_206_94 rfl ?_
                              refine zw_27 zr_206_96 (by omega) ?_
                              refine zw_13 (L' := [(2, 69), (0, a0), (0, a1), (1, ((((0 + x26) + x188) + x280) + x326)), (9, 0), (1, (((0 + x27) + x189) + x281)), (9, 0), (1, x322), (9, 0), (1, x323), (9, 0), (1, (((0 + f184) + f273) + f319)), (9, 0), (0, (((0 + 1) + 1) + 1)), (1, x326), (9, 0), (1, x327), (9, 0)]) zr_206_97 (Nat.le_of_ble_eq_true rfl) rfl ?_
                              refine zw_6 zr_206_98 rfl ?_
                              refine zw_6 zr_206_100 rfl ?_
                              refine zw_27 zr_206_102 (by omega) ?_
                              refine zw_14 (L' := [(2, 69), (0, a0), (0, a1), (1, ((((0 + x26) + x188) + x280) + x326)), (9, 0), (1, ((((0 + x27) + x189) + x281) + x327)), (9, 0), (1, x322), (9, 0), (1, x323), (9, 0), (1, (((0 + f184) + f273) + f319)), (9, 0), (0, (((0 + 1) + 1) + 1)), (1, x326), (9, 0), (1, x327), (9, 0)]) zr_206_103 (Nat.le_of_ble_eq_true rfl) rfl ?_
                              refine zw_6 zr_206_105 rfl ?_
                              refine zw_6 zr_206_107 rfl ?_
                              refine zw_29h zr_206_109 ?_
                              intro x341 hx341a hx341b
                              refine zw_7 zr_206_110 rfl ?_
                              refine zw_46r (s := 70) zr_206_111 rfl rfl rfl rfl ?_
                              refine zw_push zr_206_114 ?_
                              refine zw_4 zr_206_117 rfl ?_
                              refine zw_16 zr_206_119 (by omega) ?_
                              obtain ⟨f342, ef342⟩ : ∃ v, m0 70 821 = v := ⟨_, rfl⟩
                              have bf342 : 1 ≤ m0 70 821 ∧ m0 70 821 ≤ 9 := ib_70_weight hI0 (by omega)
                              rw [ef342] at bf342
                              refine zw_48k (c := 70) (len := 826) zr_206_120 rfl rfl (by omega) (by omega) (show ((818 + (((0 + 1) + 1) + 1)) : Int).toNat = 821 by omega) ef342 ?_
                              refine zw_36 zr_206_121 ?_
                              refine zw_6 zr_206_122 rfl ?_
                              refine zw_29h zr_206_124 ?_
                              intro x343 hx343a hx343b
                              refine zw_6 zr_206_125 rfl ?_
                              refine zw_29h zr_206_127 ?_
                              intro x344 hx344a hx344b
                              refine zw_27h zr_206_128 ?_
                              intro x345 hx345a hx345b
                              refine zw_14 (L' := [(2, 69), (0, a0), (0, a1), (1, ((((0 + x26) + x188) + x280) + x326)), (9, 0), (1, ((((0 + x27) + x189) + x281) + x327)), (9, 0), (1, x345), (9, 0), (1, x323), (9, 0), (1, (((0 + f184) + f273) + f319)), (9, 0), (0, (((0 + 1) + 1) + 1)), (1, x326), (9, 0), (1, x327), (9, 0)]) zr_206_129 (Nat.le_of_ble_eq_true rfl) rfl ?_
                              refine zw_6 zr_206_131 rfl ?_
                              refine zw_6 zr_206_133 rfl ?_
                              refine zw_29p (A := 970299) (B := 99) zr_206_135 (by omega) (by omega) (by omega) (by omega) (by decide) ?_
                              intro x346 hx346a hx346b
                              refine zw_14 (L' := [(2, 69), (0, a0), (0, a1), (1, ((((0 + x26) + x188) + x280) + x326)), (9, 0), (1, ((((0 + x27) + x189) + x281) + x327)), (9, 0), (1, x345), (9, 0), (1, x346), (9, 0), (1, (((0 + f184) + f273) + f319)), (9, 0), (0, (((0 + 1) + 1) + 1)), (1, x326), (9, 0), (1, x327), (9, 0)]) zr_206_136 (Nat.le_of_ble_eq_true rfl) rfl ?_
                              refine zw_6 zr_206_138 rfl ?_
                              refine zw_7 zr_206_140 rfl ?_
                              refine zw_46r (s := 70) zr_206_141 rfl rfl rfl rfl ?_
                              refine zw_push zr_206_144 ?_
                              refine zw_4 zr_206_147 rfl ?_
                              refine zw_16 zr_206_149 (by omega) ?_
                              refine zw_48k (c := 70) (len := 826) zr_206_150 rfl rfl (by omega) (by omega) (show ((818 + (((0 + 1) + 1) + 1)) : Int).toNat = 821 by omega) ef342 ?_
                              refine zw_36 zr_206_151 ?_
                              refine zw_27 zr_206_152 (by omega) ?_
                              refine zw_14 (L' := [(2, 69), (0, a0), (0, a1), (1, ((((0 + x26) + x188) + x280) + x326)), (9, 0), (1, ((((0 + x27) + x189) + x281) + x327)), (9, 0), (1, x345), (9, 0), (1, x346), (9, 0), (1, ((((0 + f184) + f273) + f319) + f342)), (9, 0), (0, (((0 + 1) + 1) + 1)), (1, x326), (9, 0), (1, x327), (9, 0)]) zr_206_153 (Nat.le_of_ble_eq_true rfl) rfl ?_
                              refine zw_15 (c := 1) (L' := [(2, 69), (0, a0), (0, a1), (1, ((((0 + x26) + x188) + x280) + x326)), (9, 0), (1, ((((0 + x27) + x189) + x281) + x327)), (9, 0), (1, x345), (9, 0), (1, x346), (9, 0), (1, ((((0 + f184) + f273) + f319) + f342)), (9, 0), (0, ((((0 + 1) + 1) + 1) + 1)), (1, x326), (9, 0), (1, x327), (9, 0)]) zr_206_155 rfl (by decide) (by omega) rfl ?_
                              refine zw_42 zr_206_158 ?_
                              refine zw_4 zr_206_38 rfl ?_
                              refine zw_push zr_206_40 ?_
                              refine zw_41_3 zr_206_41 ?_ ?_
                              · intro h347
                                refine zw_6 zr_206_161 rfl ?_
                                refine zw_push zr_206_163 ?_
                                refine zw_39_4 zr_206_164 zr_206_165 ?_ ?_
                                · intro h348
                                  refine zw_3 zr_206_171 rfl ?_
                                  refine zw_40_4 zr_206_172 ?_ ?_
                                  · intro h349
                                    refine zw_7 zr_206_185 rfl ?_
                                    refine zw_6 zr_206_186 rfl ?_
                                    refine zw_6 zr_206_188 rfl ?_
                                    refine zw_6 zr_206_190 rfl ?_
                                    refine zw_29p (A := 96059601) (B := 36) zr_206_192 (by omega) (by omega) (by omega) (by omega) (by decide) ?_
                                    intro x350 hx350a hx350b
                                    refine zw_C zr_206_193 (Or.inl rfl) zm_173 rfl rfl ⟨Nat.le_of_ble_eq_true rfl, Nat.le_of_ble_eq_true rfl, Nat.le_of_ble_eq_true rfl, rfl, by decide⟩ (by omega) (th_173 (d := d - 1) (by omega) hI0 (a0 := x345) (a1 := x350)      (by omega) (by omega) ) ?_
                                    rintro _ m351 ⟨rfl, hIm351, gm351⟩
                                    have hFm351 : zFr W_206 m0 m351 := hF0.trans gm351 rfl
                                    have km351_70_822 : m351 70 822 = g0 := (gm351 70 822 rfl).trans hg0
                                    have km351_70_818 : m351 70 818 = f184 := (gm351 70 818 rfl).trans ef184
                                    have km351_70_819 : m351 70 819 = f273 := (gm351 70 819 rfl).trans ef273
                                    have km351_70_820 : m351 70 820 = f319 := (gm351 70 820 rfl).trans ef319
                                    have km351_70_821 : m351 70 821 = f342 := (gm351 70 821 rfl).trans ef342
                                    have fm351_70 : m351 70 = F70 := (funext fun k => gm351 70 k rfl).trans hG70
                                    show zW E (d) 206 196 [(2, 69), (0, a0), (0, a1), (1, ((((0 + x26) + x188) + x280) + x326)), (9, 0), (1, ((((0 + x27) + x189) + x281) + x327)), (9, 0), (1, x345), (9, 0), (1, x346), (9, 0), (1, ((((0 + f184) + f273) + f319) + f342)), (9, 0), (0, ((((0 + 1) + 1) + 1) + 1)), (1, x326), (9, 0), (1, x327), (9, 0)] [] m351 Q
                                    refine zw_push zr_206_196 ?_
                                    refine zw_R zr_206_197 (by decide) zm_206 (v := (0, 1)) rfl ?_
                                    rw [← hQ]; exact ⟨_, rfl, by omega, by omega, hIm351, hFm351, by omega⟩
                                  · intro h353
                                    refine zw_7 zr_206_175 rfl ?_
                                    refine zw_5 zr_206_176 rfl ?_
                                    refine zw_6 zr_206_177 rfl ?_
                                    refine zw_C zr_206_179 (Or.inl rfl) zm_173 rfl rfl ⟨Nat.le_of_ble_eq_true rfl, Nat.le_of_ble_eq_true rfl, Nat.le_of_ble_eq_true rfl, rfl, by decide⟩ (by omega) (th_173 (d := d - 1) (by omega) hI0 (a0 := ((((0 + x26) + x188) + x280) + x326)) (a1 := ((((0 + x27) + x189) + x281) + x327))      (by omega) (by omega) ) ?_
                                    rintro _ m354 ⟨rfl, hIm354, gm354⟩
                                    have hFm354 : zFr W_206 m0 m354 := hF0.trans gm354 rfl
                                    have km354_70_822 : m354 70 822 = g0 := (gm354 70 822 rfl).trans hg0
                                    have km354_70_818 : m354 70 818 = f184 := (gm354 70 818 rfl).trans ef184
                                    have km354_70_819 : m354 70 819 = f273 := (gm354 70 819 rfl).trans ef273
                                    have km354_70_820 : m354 70 820 = f319 := (gm354 70 820 rfl).trans ef319
                                    have km354_70_821 : m354 70 821 = f342 := (gm354 70 821 rfl).trans ef342
                                    have fm354_70 : m354 70 = F70 := (funext fun k => gm354 70 k rfl).trans hG70
                                    show zW E (d) 206 182 [(2, 69), (0, a0), (0, a1), (1, ((((0 + x26) + x188) + x280) + x326)), (9, 0), (1, ((((0 + x27) + x189) + x281) + x327)), (9, 0), (1, x345), (9, 0), (1, x346), (9, 0), (1, ((((0 + f184) + f273) + f319) + f342)), (9, 0), (0, ((((0 + 1) + 1) + 1) + 1)), (1, x326), (9, 0), (1, x327), (9, 0)] [] m354 Q
                                    refine zw_42 zr_206_182 ?_
                                    refine zw_push zr_206_196 ?_
                                    refine zw_R zr_206_197 (by decide) zm_206 (v := (0, 1)) rfl ?_
                                    rw [← hQ]; exact ⟨_, rfl, by omega, by omega, hIm354, hFm354, by omega⟩
                                · intro h356; omega
                              · intro h357; omega
            · intro h358; omega

set_option maxHeartbeats 8000000 in
theorem th_133 {E : zE} {d : Nat} {m0 : zM} {a0 : Int} (hd : 2 ≤ d) (hI0 : zInv m0) (ha0 : (-2147483648) ≤ a0 ∧ a0 ≤ 2147483647) : zC E d 133 [(2, 0), (0, a0)] m0 (fun v m' => ∃ r : Int, v = (1, r) ∧ (-9223372036854775808) ≤ r ∧ r ≤ 9223372036854775807 ∧ m0 = m') := by
  generalize hQ : (fun (v : zV) (m' : zM) => ∃ r : Int, v = (1, r) ∧ (-9223372036854775808) ≤ r ∧ r ≤ 9223372036854775807 ∧ m0 = m') = Q
  show zW E d 133 0 [(2, 0), (0, a0)] [] m0 Q
  refine zw_3 zr_133_0 rfl ?_
  refine zw_push zr_133_1 ?_
  refine zw_push zr_133_2 ?_
  refine zw_C zr_133_3 (Or.inr rfl) zm_100 rfl rfl ⟨Nat.le_of_ble_eq_true rfl, Nat.le_of_ble_eq_true rfl, Nat.le_of_ble_eq_true rfl, rfl, by decide⟩ (by omega) (P := (fun v m' => zW E (d) 133 6 [(2, 0), (0, a0)] (if v.1 = 9 then [] else v :: []) m' Q)) ?_ (fun _ _ h => h)
  generalize hQ1 : (fun v m' => zW E (d) 133 6 [(2, 0), (0, a0)] (if v.1 = 9 then [] else v :: []) m' Q) = Q1
  show zW E (d - 1) 100 0 [(0, a0), (0, 0), (0, 1)] [] m0 Q1
  refine zw_3 zr_100_0 rfl ?_
  refine zw_3 zr_100_1 rfl ?_
  refine zw_41_0 zr_100_2 ?_ ?_
  · intro h1
    refine zw_push zr_100_14 ?_
    refine zw_R zr_100_15 (by decide) zm_100 (v := (0, 0)) (zRetB (by omega)) ?_
    rw [← hQ1]
    show zW E (d) 133 6 [(2, 0), (0, a0)] [(0, 0)] m0 Q
    refine zw_40_4 zr_133_6 ?_ ?_
    · intro h2; omega
    · intro h3
      refine zw_push zr_133_9 ?_
      refine zw_R zr_133_12 (by decide) zm_133 (v := (1, (-1000000000000))) rfl ?_
      rw [← hQ]; exact ⟨_, rfl, by omega, by omega, rfl⟩
  · intro h4
    refine zw_3 zr_100_5 rfl ?_
    refine zw_3 zr_100_6 rfl ?_
    refine zw_41_2 zr_100_7 ?_ ?_
    · intro h5
      refine zw_push zr_100_14 ?_
      refine zw_R zr_100_15 (by decide) zm_100 (v := (0, 0)) (zRetB (by omega)) ?_
      rw [← hQ1]
      show zW E (d) 133 6 [(2, 0), (0, a0)] [(0, 0)] m0 Q
      refine zw_40_4 zr_133_6 ?_ ?_
      · intro h6; omega
      · intro h7
        refine zw_push zr_133_9 ?_
        refine zw_R zr_133_12 (by decide) zm_133 (v := (1, (-1000000000000))) rfl ?_
        rw [← hQ]; exact ⟨_, rfl, by omega, by omega, rfl⟩
    · intro h8
      refine zw_push zr_100_10 ?_
      refine zw_42 zr_100_11 ?_
      refine zw_R zr_100_15 (by decide) zm_100 (v := (0, 1)) (zRetB (by omega)) ?_
      rw [← hQ1]
      show zW E (d) 133 6 [(2, 0), (0, a0)] [(0, 1)] m0 Q
      refine zw_40_4 zr_133_6 ?_ ?_
      · intro h9
        refine zw_3 zr_133_13 rfl ?_
        refine zw_40_4 zr_133_14 ?_ ?_
        · intro h10
          refine zw_7 zr_133_27 rfl ?_
          refine zw_46r (s := 42) zr_133_28 rfl rfl rfl rfl ?_
          obtain ⟨f11, ef11⟩ : ∃ v, m0 42 1 = v := ⟨_, rfl⟩
          have bf11 := hI0.fl (c := 42) (k := 1) rfl
          rw [ef11] at bf11
          refine zw_46l zr_133_31 ef11 rfl rfl rfl ?_
          refine zw_R zr_133_34 (by decide) zm_133 (v := (1, f11)) rfl ?_
          rw [← hQ]; exact ⟨_, rfl, by omega, by omega, rfl⟩
        · intro h12
          refine zw_7 zr_133_17 rfl ?_
          refine zw_46r (s := 42) zr_133_18 rfl rfl rfl rfl ?_
          obtain ⟨f13, ef13⟩ : ∃ v, m0 42 0 = v := ⟨_, rfl⟩
          have bf13 := hI0.fl (c := 42) (k := 0) rfl
          rw [ef13] at bf13
          refine zw_46l zr_133_21 ef13 rfl rfl rfl ?_
          refine zw_42 zr_133_24 ?_
          refine zw_R zr_133_34 (by decide) zm_133 (v := (1, f13)) rfl ?_
          rw [← hQ]; exact ⟨_, rfl, by omega, by omega, rfl⟩
      · intro h14; omega

set_option maxHeartbeats 8000000 in
theorem th_207 {E : zE} {d : Nat} {m0 : zM} {a0 : Int} (hd : 1 ≤ d) (hI0 : zInv m0) (ha0 : (-2147483648) ≤ a0 ∧ a0 ≤ 2147483647) : zC E d 207 [(2, 69), (0, a0)] m0 (fun v m' => ∃ r : Int, v = (1, r) ∧ (-9223372036854775808) ≤ r ∧ r ≤ 9223372036854775807 ∧ m0 = m') := by
  generalize hQ : (fun (v : zV) (m' : zM) => ∃ r : Int, v = (1, r) ∧ (-9223372036854775808) ≤ r ∧ r ≤ 9223372036854775807 ∧ m0 = m') = Q
  show zW E d 207 0 [(2, 69), (0, a0)] [] m0 Q
  refine zw_3 zr_207_0 rfl ?_
  refine zw_40_4 zr_207_1 ?_ ?_
  · intro h1
    refine zw_3 zr_207_11 rfl ?_
    refine zw_push zr_207_12 ?_
    refine zw_41_4 zr_207_13 ?_ ?_
    · intro h2
      refine zw_push zr_207_23 ?_
      refine zw_R zr_207_26 (by decide) zm_207 (v := (1, (-1000000000000))) rfl ?_
      rw [← hQ]; exact ⟨_, rfl, by omega, by omega, rfl⟩
    · intro h3
      refine zw_7 zr_207_16 rfl ?_
      obtain ⟨f4, ef4⟩ : ∃ v, m0 69 4 = v := ⟨_, rfl⟩
      have bf4 := hI0.fl (c := 69) (k := 4) rfl
      rw [ef4] at bf4
      refine zw_46l zr_207_17 ef4 rfl rfl rfl ?_
      refine zw_42 zr_207_20 ?_
      refine zw_R zr_207_26 (by decide) zm_207 (v := (1, f4)) rfl ?_
      rw [← hQ]; exact ⟨_, rfl, by omega, by omega, rfl⟩
  · intro h5
    refine zw_7 zr_207_4 rfl ?_
    obtain ⟨f6, ef6⟩ : ∃ v, m0 69 3 = v := ⟨_, rfl⟩
    have bf6 := hI0.fl (c := 69) (k := 3) rfl
    rw [ef6] at bf6
    refine zw_46l zr_207_5 ef6 rfl rfl rfl ?_
    refine zw_42 zr_207_8 ?_
    refine zw_R zr_207_26 (by decide) zm_207 (v := (1, f6)) rfl ?_
    rw [← hQ]; exact ⟨_, rfl, by omega, by omega, rfl⟩

abbrev W_61_15_1 : List (Nat × Nat) := [(15, 0), (15, 1), (15, 2), (15, 3), (15, 4), (15, 5), (16, 1000), (17, 1000), (18, 1000), (19, 1000), (20, 1000), (21, 1000), (22, 1000), (23, 1000), (24, 1000), (25, 1000), (26, 1000), (27, 1000)]
set_option maxHeartbeats 8000000 in
theorem th_61_15_1 {E : zE} {d : Nat} {m0 : zM} {g0 : Int} {g1 : Int} {g2 : Int} {g3 : Int} {g4 : Int} {g5 : Int} {F16 : Nat → Int} {F17 : Nat → Int} {F18 : Nat → Int} {F19 : Nat → Int} {F20 : Nat → Int} {F21 : Nat → Int} {F22 : Nat → Int} {F23 : Nat → Int} {F24 : Nat → Int} {F25 : Nat → Int} {F26 : Nat → Int} {F27 : Nat → Int} {F2 : Nat → Int} {F3 : Nat → Int} {F4 : Nat → Int} {F5 : Nat → Int} {F6 : Nat → Int} {F7 : Nat → Int} {F8 : Nat → Int} {F9 : Nat → Int} {F10 : Nat → Int} {F11 : Nat → Int} {F12 : Nat → Int} {F13 : Nat → Int} (hd : 1 ≤ d) (hI0 : zInv m0) (hg0 : m0 1 0 = g0) (hg1 : m0 1 1 = g1) (hg2 : m0 1 2 = g2) (hg3 : m0 1 3 = g3) (hg4 : m0 1 4 = g4) (hg5 : m0 1 5 = g5) (hG16 : m0 16 = F16) (hG17 : m0 17 = F17) (hG18 : m0 18 = F18) (hG19 : m0 19 = F19) (hG20 : m0 20 = F20) (hG21 : m0 21 = F21) (hG22 : m0 22 = F22) (hG23 : m0 23 = F23) (hG24 : m0 24 = F24) (hG25 : m0 25 = F25) (hG26 : m0 26 = F26) (hG27 : m0 27 = F27) (hG2 : m0 2 = F2) (hG3 : m0 3 = F3) (hG4 : m0 4 = F4) (hG5 : m0 5 = F5) (hG6 : m0 6 = F6) (hG7 : m0 7 = F7) (hG8 : m0 8 = F8) (hG9 : m0 9 = F9) (hG10 : m0 10 = F10) (hG11 : m0 11 = F11) (hG12 : m0 12 = F12) (hG13 : m0 13 = F13) : zC E d 61 [(2, 15), (2, 1)] m0 (fun v m' => v = (9, 0) ∧ zInv m' ∧ zFr W_61_15_1 m0 m' ∧ (zTk_15_1 m0 m')) := by
  have hF0 : zFr W_61_15_1 m0 m0 := zFr.rfl
  have bg0 := ib_1_0 hI0
  rw [hg0] at bg0
  have bg1 := ib_1_1 hI0
  rw [hg1] at bg1
  have bg2 := ib_1_2 hI0
  rw [hg2] at bg2
  have bg3 := ib_1_3 hI0
  rw [hg3] at bg3
  have bg4 := ib_1_4 hI0
  rw [hg4] at bg4
  have bg5 := ib_1_5 hI0
  rw [hg5] at bg5
  generalize hQ : (fun (v : zV) (m' : zM) => v = (9, 0) ∧ zInv m' ∧ zFr W_61_15_1 m0 m' ∧ (zTk_15_1 m0 m')) = Q
  show zW E d 61 0 [(2, 15), (2, 1)] [] m0 Q
  refine zw_7 zr_61_0 rfl ?_
  refine zw_7 zr_61_1 rfl ?_
  refine zw_46i zr_61_2 hg0 rfl rfl rfl ?_
  refine zw_47 (c := 15) zr_61_5 rfl ⟨rfl, by decide, rfl⟩ ?_
  intro m1 em1
  have hIm1 : zInv m1 := by rw [em1]; exact hI0.bd (r := 15) (k := 0) (lo := 0) (hi := 10) rfl (by omega) (by decide) (by decide) (by decide)
  have hFm1 : zFr W_61_15_1 m0 m1 := by rw [em1]; exact hF0.up rfl
  have km1_1_0 : m1 1 0 = g0 := by rw [em1, zUp_ne (by omega)]; exact hg0
  have km1_1_1 : m1 1 1 = g1 := by rw [em1, zUp_ne (by omega)]; exact hg1
  have km1_1_2 : m1 1 2 = g2 := by rw [em1, zUp_ne (by omega)]; exact hg2
  have km1_1_3 : m1 1 3 = g3 := by rw [em1, zUp_ne (by omega)]; exact hg3
  have km1_1_4 : m1 1 4 = g4 := by rw [em1, zUp_ne (by omega)]; exact hg4
  have km1_1_5 : m1 1 5 = g5 := by rw [em1, zUp_ne (by omega)]; exact hg5
  have km1_15_0 : m1 15 0 = g0 := by rw [em1]; exact zUp_eq _ _ _ _
  have fm1_16 : m1 16 = F16 := by rw [em1, zUp_fn (by decide)]; exact hG16
  have fm1_17 : m1 17 = F17 := by rw [em1, zUp_fn (by decide)]; exact hG17
  have fm1_18 : m1 18 = F18 := by rw [em1, zUp_fn (by decide)]; exact hG18
  have fm1_19 : m1 19 = F19 := by rw [em1, zUp_fn (by decide)]; exact hG19
  have fm1_20 : m1 20 = F20 := by rw [em1, zUp_fn (by decide)]; exact hG20
  have fm1_21 : m1 21 = F21 := by rw [em1, zUp_fn (by decide)]; exact hG21
  have fm1_22 : m1 22 = F22 := by rw [em1, zUp_fn (by decide)]; exact hG22
  have fm1_23 : m1 23 = F23 := by rw [em1, zUp_fn (by decide)]; exact hG23
  have fm1_24 : m1 24 = F24 := by rw [em1, zUp_fn (by decide)]; exact hG24
  have fm1_25 : m1 25 = F25 := by rw [em1, zUp_fn (by decide)]; exact hG25
  have fm1_26 : m1 26 = F26 := by rw [em1, zUp_fn (by decide)]; exact hG26
  have fm1_27 : m1 27 = F27 := by rw [em1, zUp_fn (by decide)]; exact hG27
  have fm1_2 : m1 2 = F2 := by rw [em1, zUp_fn (by decide)]; exact hG2
  have fm1_3 : m1 3 = F3 := by rw [em1, zUp_fn (by decide)]; exact hG3
  have fm1_4 : m1 4 = F4 := by rw [em1, zUp_fn (by decide)]; exact hG4
  have fm1_5 : m1 5 = F5 := by rw [em1, zUp_fn (by decide)]; exact hG5
  have fm1_6 : m1 6 = F6 := by rw [em1, zUp_fn (by decide)]; exact hG6
  have fm1_7 : m1 7 = F7 := by rw [em1, zUp_fn (by decide)]; exact hG7
  have fm1_8 : m1 8 = F8 := by rw [em1, zUp_fn (by decide)]; exact hG8
  have fm1_9 : m1 9 = F9 := by rw [em1, zUp_fn (by decide)]; exact hG9
  have fm1_10 : m1 10 = F10 := by rw [em1, zUp_fn (by decide)]; exact hG10
  have fm1_11 : m1 11 = F11 := by rw [em1, zUp_fn (by decide)]; exact hG11
  have fm1_12 : m1 12 = F12 := by rw [em1, zUp_fn (by decide)]; exact hG12
  have fm1_13 : m1 13 = F13 := by rw [em1, zUp_fn (by decide)]; exact hG13
  clear em1
  refine zw_7 zr_61_8 rfl ?_
  refine zw_7 zr_61_9 rfl ?_
  refine zw_46i zr_61_10 km1_1_1 rfl rfl rfl ?_
  refine zw_47 (c := 15) zr_61_13 rfl ⟨rfl, by decide, rfl⟩ ?_
  intro m2 em2
  have hIm2 : zInv m2 := by rw [em2]; exact hIm1.bd (r := 15) (k := 1) (lo := 0) (hi := 60) rfl (by omega) (by decide) (by decide) (by decide)
  have hFm2 : zFr W_61_15_1 m0 m2 := by rw [em2]; exact hFm1.up rfl
  have km2_1_0 : m2 1 0 = g0 := by rw [em2, zUp_ne (by omega)]; exact km1_1_0
  have km2_1_1 : m2 1 1 = g1 := by rw [em2, zUp_ne (by omega)]; exact km1_1_1
  have km2_1_2 : m2 1 2 = g2 := by rw [em2, zUp_ne (by omega)]; exact km1_1_2
  have km2_1_3 : m2 1 3 = g3 := by rw [em2, zUp_ne (by omega)]; exact km1_1_3
  have km2_1_4 : m2 1 4 = g4 := by rw [em2, zUp_ne (by omega)]; exact km1_1_4
  have km2_1_5 : m2 1 5 = g5 := by rw [em2, zUp_ne (by omega)]; exact km1_1_5
  have km2_15_0 : m2 15 0 = g0 := by rw [em2, zUp_ne (by omega)]; exact km1_15_0
  have km2_15_1 : m2 15 1 = g1 := by rw [em2]; exact zUp_eq _ _ _ _
  have fm2_16 : m2 16 = F16 := by rw [em2, zUp_fn (by decide)]; exact fm1_16
  have fm2_17 : m2 17 = F17 := by rw [em2, zUp_fn (by decide)]; exact fm1_17
  have fm2_18 : m2 18 = F18 := by rw [em2, zUp_fn (by decide)]; exact fm1_18
  have fm2_19 : m2 19 = F19 := by rw [em2, zUp_fn (by decide)]; exact fm1_19
  have fm2_20 : m2 20 = F20 := by rw [em2, zUp_fn (by decide)]; exact fm1_20
  have fm2_21 : m2 21 = F21 := by rw [em2, zUp_fn (by decide)]; exact fm1_21
  have fm2_22 : m2 22 = F22 := by rw [em2, zUp_fn (by decide)]; exact fm1_22
  have fm2_23 : m2 23 = F23 := by rw [em2, zUp_fn (by decide)]; exact fm1_23
  have fm2_24 : m2 24 = F24 := by rw [em2, zUp_fn (by decide)]; exact fm1_24
  have fm2_25 : m2 25 = F25 := by rw [em2, zUp_fn (by decide)]; exact fm1_25
  have fm2_26 : m2 26 = F26 := by rw [em2, zUp_fn (by decide)]; exact fm1_26
  have fm2_27 : m2 27 = F27 := by rw [em2, zUp_fn (by decide)]; exact fm1_27
  have fm2_2 : m2 2 = F2 := by rw [em2, zUp_fn (by decide)]; exact fm1_2
  have fm2_3 : m2 3 = F3 := by rw [em2, zUp_fn (by decide)]; exact fm1_3
  have fm2_4 : m2 4 = F4 := by rw [em2, zUp_fn (by decide)]; exact fm1_4
  have fm2_5 : m2 5 = F5 := by rw [em2, zUp_fn (by decide)]; exact fm1_5
  have fm2_6 : m2 6 = F6 := by rw [em2, zUp_fn (by decide)]; exact fm1_6
  have fm2_7 : m2 7 = F7 := by rw [em2, zUp_fn (by decide)]; exact fm1_7
  have fm2_8 : m2 8 = F8 := by rw [em2, zUp_fn (by decide)]; exact fm1_8
  have fm2_9 : m2 9 = F9 := by rw [em2, zUp_fn (by decide)]; exact fm1_9
  have fm2_10 : m2 10 = F10 := by rw [em2, zUp_fn (by decide)]; exact fm1_10
  have fm2_11 : m2 11 = F11 := by rw [em2, zUp_fn (by decide)]; exact fm1_11
  have fm2_12 : m2 12 = F12 := by rw [em2, zUp_fn (by decide)]; exact fm1_12
  have fm2_13 : m2 13 = F13 := by rw [em2, zUp_fn (by decide)]; exact fm1_13
  clear em2
  refine zw_7 zr_61_16 rfl ?_
  refine zw_7 zr_61_17 rfl ?_
  refine zw_46l zr_61_18 km2_1_2 rfl rfl rfl ?_
  refine zw_47 (c := 15) zr_61_21 rfl ⟨rfl, by decide, rfl⟩ ?_
  intro m3 em3
  have hIm3 : zInv m3 := by rw [em3]; exact hIm2.bdl (r := 15) (k := 2) (lo := 0) (hi := 1152921504606846975) rfl (by omega) (by decide) (by decide) (by decide) (by decide)
  have hFm3 : zFr W_61_15_1 m0 m3 := by rw [em3]; exact hFm2.up rfl
  have km3_1_0 : m3 1 0 = g0 := by rw [em3, zUp_ne (by omega)]; exact km2_1_0
  have km3_1_1 : m3 1 1 = g1 := by rw [em3, zUp_ne (by omega)]; exact km2_1_1
  have km3_1_2 : m3 1 2 = g2 := by rw [em3, zUp_ne (by omega)]; exact km2_1_2
  have km3_1_3 : m3 1 3 = g3 := by rw [em3, zUp_ne (by omega)]; exact km2_1_3
  have km3_1_4 : m3 1 4 = g4 := by rw [em3, zUp_ne (by omega)]; exact km2_1_4
  have km3_1_5 : m3 1 5 = g5 := by rw [em3, zUp_ne (by omega)]; exact km2_1_5
  have km3_15_0 : m3 15 0 = g0 := by rw [em3, zUp_ne (by omega)]; exact km2_15_0
  have km3_15_1 : m3 15 1 = g1 := by rw [em3, zUp_ne (by omega)]; exact km2_15_1
  have km3_15_2 : m3 15 2 = g2 := by rw [em3]; exact zUp_eq _ _ _ _
  have fm3_16 : m3 16 = F16 := by rw [em3, zUp_fn (by decide)]; exact fm2_16
  have fm3_17 : m3 17 = F17 := by rw [em3, zUp_fn (by decide)]; exact fm2_17
  have fm3_18 : m3 18 = F18 := by rw [em3, zUp_fn (by decide)]; exact fm2_18
  have fm3_19 : m3 19 = F19 := by rw [em3, zUp_fn (by decide)]; exact fm2_19
  have fm3_20 : m3 20 = F20 := by rw [em3, zUp_fn (by decide)]; exact fm2_20
  have fm3_21 : m3 21 = F21 := by rw [em3, zUp_fn (by decide)]; exact fm2_21
  have fm3_22 : m3 22 = F22 := by rw [em3, zUp_fn (by decide)]; exact fm2_22
  have fm3_23 : m3 23 = F23 := by rw [em3, zUp_fn (by decide)]; exact fm2_23
  have fm3_24 : m3 24 = F24 := by rw [em3, zUp_fn (by decide)]; exact fm2_24
  have fm3_25 : m3 25 = F25 := by rw [em3, zUp_fn (by decide)]; exact fm2_25
  have fm3_26 : m3 26 = F26 := by rw [em3, zUp_fn (by decide)]; exact fm2_26
  have fm3_27 : m3 27 = F27 := by rw [em3, zUp_fn (by decide)]; exact fm2_27
  have fm3_2 : m3 2 = F2 := by rw [em3, zUp_fn (by decide)]; exact fm2_2
  have fm3_3 : m3 3 = F3 := by rw [em3, zUp_fn (by decide)]; exact fm2_3
  have fm3_4 : m3 4 = F4 := by rw [em3, zUp_fn (by decide)]; exact fm2_4
  have fm3_5 : m3 5 = F5 := by rw [em3, zUp_fn (by decide)]; exact fm2_5
  have fm3_6 : m3 6 = F6 := by rw [em3, zUp_fn (by decide)]; exact fm2_6
  have fm3_7 : m3 7 = F7 := by rw [em3, zUp_fn (by decide)]; exact fm2_7
  have fm3_8 : m3 8 = F8 := by rw [em3, zUp_fn (by decide)]; exact fm2_8
  have fm3_9 : m3 9 = F9 := by rw [em3, zUp_fn (by decide)]; exact fm2_9
  have fm3_10 : m3 10 = F10 := by rw [em3, zUp_fn (by decide)]; exact fm2_10
  have fm3_11 : m3 11 = F11 := by rw [em3, zUp_fn (by decide)]; exact fm2_11
  have fm3_12 : m3 12 = F12 := by rw [em3, zUp_fn (by decide)]; exact fm2_12
  have fm3_13 : m3 13 = F13 := by rw [em3, zUp_fn (by decide)]; exact fm2_13
  clear em3
  refine zw_7 zr_61_24 rfl ?_
  refine zw_7 zr_61_25 rfl ?_
  refine zw_46l zr_61_26 km3_1_3 rfl rfl rfl ?_
  refine zw_47 (c := 15) zr_61_29 rfl ⟨rfl, by decide, rfl⟩ ?_
  intro m4 em4
  have hIm4 : zInv m4 := by rw [em4]; exact hIm3.bdl (r := 15) (k := 3) (lo := 0) (hi := 1152921504606846975) rfl (by omega) (by decide) (by decide) (by decide) (by decide)
  have hFm4 : zFr W_61_15_1 m0 m4 := by rw [em4]; exact hFm3.up rfl
  have km4_1_0 : m4 1 0 = g0 := by rw [em4, zUp_ne (by omega)]; exact km3_1_0
  have km4_1_1 : m4 1 1 = g1 := by rw [em4, zUp_ne (by omega)]; exact km3_1_1
  have km4_1_2 : m4 1 2 = g2 := by rw [em4, zUp_ne (by omega)]; exact km3_1_2
  have km4_1_3 : m4 1 3 = g3 := by rw [em4, zUp_ne (by omega)]; exact km3_1_3
  have km4_1_4 : m4 1 4 = g4 := by rw [em4, zUp_ne (by omega)]; exact km3_1_4
  have km4_1_5 : m4 1 5 = g5 := by rw [em4, zUp_ne (by omega)]; exact km3_1_5
  have km4_15_0 : m4 15 0 = g0 := by rw [em4, zUp_ne (by omega)]; exact km3_15_0
  have km4_15_1 : m4 15 1 = g1 := by rw [em4, zUp_ne (by omega)]; exact km3_15_1
  have km4_15_2 : m4 15 2 = g2 := by rw [em4, zUp_ne (by omega)]; exact km3_15_2
  have km4_15_3 : m4 15 3 = g3 := by rw [em4]; exact zUp_eq _ _ _ _
  have fm4_16 : m4 16 = F16 := by rw [em4, zUp_fn (by decide)]; exact fm3_16
  have fm4_17 : m4 17 = F17 := by rw [em4, zUp_fn (by decide)]; exact fm3_17
  have fm4_18 : m4 18 = F18 := by rw [em4, zUp_fn (by decide)]; exact fm3_18
  have fm4_19 : m4 19 = F19 := by rw [em4, zUp_fn (by decide)]; exact fm3_19
  have fm4_20 : m4 20 = F20 := by rw [em4, zUp_fn (by decide)]; exact fm3_20
  have fm4_21 : m4 21 = F21 := by rw [em4, zUp_fn (by decide)]; exact fm3_21
  have fm4_22 : m4 22 = F22 := by rw [em4, zUp_fn (by decide)]; exact fm3_22
  have fm4_23 : m4 23 = F23 := by rw [em4, zUp_fn (by decide)]; exact fm3_23
  have fm4_24 : m4 24 = F24 := by rw [em4, zUp_fn (by decide)]; exact fm3_24
  have fm4_25 : m4 25 = F25 := by rw [em4, zUp_fn (by decide)]; exact fm3_25
  have fm4_26 : m4 26 = F26 := by rw [em4, zUp_fn (by decide)]; exact fm3_26
  have fm4_27 : m4 27 = F27 := by rw [em4, zUp_fn (by decide)]; exact fm3_27
  have fm4_2 : m4 2 = F2 := by rw [em4, zUp_fn (by decide)]; exact fm3_2
  have fm4_3 : m4 3 = F3 := by rw [em4, zUp_fn (by decide)]; exact fm3_3
  have fm4_4 : m4 4 = F4 := by rw [em4, zUp_fn (by decide)]; exact fm3_4
  have fm4_5 : m4 5 = F5 := by rw [em4, zUp_fn (by decide)]; exact fm3_5
  have fm4_6 : m4 6 = F6 := by rw [em4, zUp_fn (by decide)]; exact fm3_6
  have fm4_7 : m4 7 = F7 := by rw [em4, zUp_fn (by decide)]; exact fm3_7
  have fm4_8 : m4 8 = F8 := by rw [em4, zUp_fn (by decide)]; exact fm3_8
  have fm4_9 : m4 9 = F9 := by rw [em4, zUp_fn (by decide)]; exact fm3_9
  have fm4_10 : m4 10 = F10 := by rw [em4, zUp_fn (by decide)]; exact fm3_10
  have fm4_11 : m4 11 = F11 := by rw [em4, zUp_fn (by decide)]; exact fm3_11
  have fm4_12 : m4 12 = F12 := by rw [em4, zUp_fn (by decide)]; exact fm3_12
  have fm4_13 : m4 13 = F13 := by rw [em4, zUp_fn (by decide)]; exact fm3_13
  clear em4
  refine zw_7 zr_61_32 rfl ?_
  refine zw_7 zr_61_33 rfl ?_
  refine zw_46i zr_61_34 km4_1_4 rfl rfl rfl ?_
  refine zw_47 (c := 15) zr_61_37 rfl ⟨rfl, by decide, rfl⟩ ?_
  intro m5 em5
  have hIm5 : zInv m5 := by rw [em5]; exact hIm4.bd (r := 15) (k := 4) (lo := 1) (hi := 1000) rfl (by omega) (by decide) (by decide) (by decide)
  have hFm5 : zFr W_61_15_1 m0 m5 := by rw [em5]; exact hFm4.up rfl
  have km5_1_0 : m5 1 0 = g0 := by rw [em5, zUp_ne (by omega)]; exact km4_1_0
  have km5_1_1 : m5 1 1 = g1 := by rw [em5, zUp_ne (by omega)]; exact km4_1_1
  have km5_1_2 : m5 1 2 = g2 := by rw [em5, zUp_ne (by omega)]; exact km4_1_2
  have km5_1_3 : m5 1 3 = g3 := by rw [em5, zUp_ne (by omega)]; exact km4_1_3
  have km5_1_4 : m5 1 4 = g4 := by rw [em5, zUp_ne (by omega)]; exact km4_1_4
  have km5_1_5 : m5 1 5 = g5 := by rw [em5, zUp_ne (by omega)]; exact km4_1_5
  have km5_15_0 : m5 15 0 = g0 := by rw [em5, zUp_ne (by omega)]; exact km4_15_0
  have km5_15_1 : m5 15 1 = g1 := by rw [em5, zUp_ne (by omega)]; exact km4_15_1
  have km5_15_2 : m5 15 2 = g2 := by rw [em5, zUp_ne (by omega)]; exact km4_15_2
  have km5_15_3 : m5 15 3 = g3 := by rw [em5, zUp_ne (by omega)]; exact km4_15_3
  have km5_15_4 : m5 15 4 = g4 := by rw [em5]; exact zUp_eq _ _ _ _
  have fm5_16 : m5 16 = F16 := by rw [em5, zUp_fn (by decide)]; exact fm4_16
  have fm5_17 : m5 17 = F17 := by rw [em5, zUp_fn (by decide)]; exact fm4_17
  have fm5_18 : m5 18 = F18 := by rw [em5, zUp_fn (by decide)]; exact fm4_18
  have fm5_19 : m5 19 = F19 := by rw [em5, zUp_fn (by decide)]; exact fm4_19
  have fm5_20 : m5 20 = F20 := by rw [em5, zUp_fn (by decide)]; exact fm4_20
  have fm5_21 : m5 21 = F21 := by rw [em5, zUp_fn (by decide)]; exact fm4_21
  have fm5_22 : m5 22 = F22 := by rw [em5, zUp_fn (by decide)]; exact fm4_22
  have fm5_23 : m5 23 = F23 := by rw [em5, zUp_fn (by decide)]; exact fm4_23
  have fm5_24 : m5 24 = F24 := by rw [em5, zUp_fn (by decide)]; exact fm4_24
  have fm5_25 : m5 25 = F25 := by rw [em5, zUp_fn (by decide)]; exact fm4_25
  have fm5_26 : m5 26 = F26 := by rw [em5, zUp_fn (by decide)]; exact fm4_26
  have fm5_27 : m5 27 = F27 := by rw [em5, zUp_fn (by decide)]; exact fm4_27
  have fm5_2 : m5 2 = F2 := by rw [em5, zUp_fn (by decide)]; exact fm4_2
  have fm5_3 : m5 3 = F3 := by rw [em5, zUp_fn (by decide)]; exact fm4_3
  have fm5_4 : m5 4 = F4 := by rw [em5, zUp_fn (by decide)]; exact fm4_4
  have fm5_5 : m5 5 = F5 := by rw [em5, zUp_fn (by decide)]; exact fm4_5
  have fm5_6 : m5 6 = F6 := by rw [em5, zUp_fn (by decide)]; exact fm4_6
  have fm5_7 : m5 7 = F7 := by rw [em5, zUp_fn (by decide)]; exact fm4_7
  have fm5_8 : m5 8 = F8 := by rw [em5, zUp_fn (by decide)]; exact fm4_8
  have fm5_9 : m5 9 = F9 := by rw [em5, zUp_fn (by decide)]; exact fm4_9
  have fm5_10 : m5 10 = F10 := by rw [em5, zUp_fn (by decide)]; exact fm4_10
  have fm5_11 : m5 11 = F11 := by rw [em5, zUp_fn (by decide)]; exact fm4_11
  have fm5_12 : m5 12 = F12 := by rw [em5, zUp_fn (by decide)]; exact fm4_12
  have fm5_13 : m5 13 = F13 := by rw [em5, zUp_fn (by decide)]; exact fm4_13
  clear em5
  refine zw_7 zr_61_40 rfl ?_
  refine zw_7 zr_61_41 rfl ?_
  refine zw_46i zr_61_42 km5_1_5 rfl rfl rfl ?_
  refine zw_47 (c := 15) zr_61_45 rfl ⟨rfl, by decide, rfl⟩ ?_
  intro m6 em6
  have hIm6 : zInv m6 := by rw [em6]; exact hIm5.bd (r := 15) (k := 5) (lo := 0) (hi := 500) rfl (by omega) (by decide) (by decide) (by decide)
  have hFm6 : zFr W_61_15_1 m0 m6 := by rw [em6]; exact hFm5.up rfl
  have km6_1_0 : m6 1 0 = g0 := by rw [em6, zUp_ne (by omega)]; exact km5_1_0
  have km6_1_1 : m6 1 1 = g1 := by rw [em6, zUp_ne (by omega)]; exact km5_1_1
  have km6_1_2 : m6 1 2 = g2 := by rw [em6, zUp_ne (by omega)]; exact km5_1_2
  have km6_1_3 : m6 1 3 = g3 := by rw [em6, zUp_ne (by omega)]; exact km5_1_3
  have km6_1_4 : m6 1 4 = g4 := by rw [em6, zUp_ne (by omega)]; exact km5_1_4
  have km6_1_5 : m6 1 5 = g5 := by rw [em6, zUp_ne (by omega)]; exact km5_1_5
  have km6_15_0 : m6 15 0 = g0 := by rw [em6, zUp_ne (by omega)]; exact km5_15_0
  have km6_15_1 : m6 15 1 = g1 := by rw [em6, zUp_ne (by omega)]; exact km5_15_1
  have km6_15_2 : m6 15 2 = g2 := by rw [em6, zUp_ne (by omega)]; exact km5_15_2
  have km6_15_3 : m6 15 3 = g3 := by rw [em6, zUp_ne (by omega)]; exact km5_15_3
  have km6_15_4 : m6 15 4 = g4 := by rw [em6, zUp_ne (by omega)]; exact km5_15_4
  have km6_15_5 : m6 15 5 = g5 := by rw [em6]; exact zUp_eq _ _ _ _
  have fm6_16 : m6 16 = F16 := by rw [em6, zUp_fn (by decide)]; exact fm5_16
  have fm6_17 : m6 17 = F17 := by rw [em6, zUp_fn (by decide)]; exact fm5_17
  have fm6_18 : m6 18 = F18 := by rw [em6, zUp_fn (by decide)]; exact fm5_18
  have fm6_19 : m6 19 = F19 := by rw [em6, zUp_fn (by decide)]; exact fm5_19
  have fm6_20 : m6 20 = F20 := by rw [em6, zUp_fn (by decide)]; exact fm5_20
  have fm6_21 : m6 21 = F21 := by rw [em6, zUp_fn (by decide)]; exact fm5_21
  have fm6_22 : m6 22 = F22 := by rw [em6, zUp_fn (by decide)]; exact fm5_22
  have fm6_23 : m6 23 = F23 := by rw [em6, zUp_fn (by decide)]; exact fm5_23
  have fm6_24 : m6 24 = F24 := by rw [em6, zUp_fn (by decide)]; exact fm5_24
  have fm6_25 : m6 25 = F25 := by rw [em6, zUp_fn (by decide)]; exact fm5_25
  have fm6_26 : m6 26 = F26 := by rw [em6, zUp_fn (by decide)]; exact fm5_26
  have fm6_27 : m6 27 = F27 := by rw [em6, zUp_fn (by decide)]; exact fm5_27
  have fm6_2 : m6 2 = F2 := by rw [em6, zUp_fn (by decide)]; exact fm5_2
  have fm6_3 : m6 3 = F3 := by rw [em6, zUp_fn (by decide)]; exact fm5_3
  have fm6_4 : m6 4 = F4 := by rw [em6, zUp_fn (by decide)]; exact fm5_4
  have fm6_5 : m6 5 = F5 := by rw [em6, zUp_fn (by decide)]; exact fm5_5
  have fm6_6 : m6 6 = F6 := by rw [em6, zUp_fn (by decide)]; exact fm5_6
  have fm6_7 : m6 7 = F7 := by rw [em6, zUp_fn (by decide)]; exact fm5_7
  have fm6_8 : m6 8 = F8 := by rw [em6, zUp_fn (by decide)]; exact fm5_8
  have fm6_9 : m6 9 = F9 := by rw [em6, zUp_fn (by decide)]; exact fm5_9
  have fm6_10 : m6 10 = F10 := by rw [em6, zUp_fn (by decide)]; exact fm5_10
  have fm6_11 : m6 11 = F11 := by rw [em6, zUp_fn (by decide)]; exact fm5_11
  have fm6_12 : m6 12 = F12 := by rw [em6, zUp_fn (by decide)]; exact fm5_12
  have fm6_13 : m6 13 = F13 := by rw [em6, zUp_fn (by decide)]; exact fm5_13
  clear em6
  refine zw_7 zr_61_48 rfl ?_
  refine zw_46r (s := 2) zr_61_49 rfl rfl rfl rfl ?_
  refine zw_push zr_61_52 ?_
  refine zw_7 zr_61_53 rfl ?_
  refine zw_46r (s := 16) zr_61_54 rfl rfl rfl rfl ?_
  refine zw_push zr_61_57 ?_
  refine zw_push zr_61_58 ?_
  refine zw_114 (c1 := 16) (c2 := 2) (l1 := 10) (l2 := 10) zr_61_60 rfl rfl rfl rfl (by decide) (Nat.le_of_ble_eq_true rfl) (by omega) (by omega) ?_
  intro m7 em7
  have hIm7 : zInv m7 := by rw [em7]; exact zInv.cpS hIm6 (l2 := 10) (fun _ => rfl) rfl (by decide) (by decide) (by decide)
  have hFm7 : zFr W_61_15_1 m0 m7 := by rw [em7]; exact hFm6.cp rfl
  have km7_1_0 : m7 1 0 = g0 := by rw [em7, zCp_ne (by decide)]; exact km6_1_0
  have km7_1_1 : m7 1 1 = g1 := by rw [em7, zCp_ne (by decide)]; exact km6_1_1
  have km7_1_2 : m7 1 2 = g2 := by rw [em7, zCp_ne (by decide)]; exact km6_1_2
  have km7_1_3 : m7 1 3 = g3 := by rw [em7, zCp_ne (by decide)]; exact km6_1_3
  have km7_1_4 : m7 1 4 = g4 := by rw [em7, zCp_ne (by decide)]; exact km6_1_4
  have km7_1_5 : m7 1 5 = g5 := by rw [em7, zCp_ne (by decide)]; exact km6_1_5
  have km7_15_0 : m7 15 0 = g0 := by rw [em7, zCp_ne (by decide)]; exact km6_15_0
  have km7_15_1 : m7 15 1 = g1 := by rw [em7, zCp_ne (by decide)]; exact km6_15_1
  have km7_15_2 : m7 15 2 = g2 := by rw [em7, zCp_ne (by decide)]; exact km6_15_2
  have km7_15_3 : m7 15 3 = g3 := by rw [em7, zCp_ne (by decide)]; exact km6_15_3
  have km7_15_4 : m7 15 4 = g4 := by rw [em7, zCp_ne (by decide)]; exact km6_15_4
  have km7_15_5 : m7 15 5 = g5 := by rw [em7, zCp_ne (by decide)]; exact km6_15_5
  have fm7_16 : m7 16 = zCf F16 F2 10 := by rw [em7]; exact (zCp_ff (m := m6) (c1 := 16) (c2 := 2) (n := 10) rfl rfl).trans (by rw [fm6_16, fm6_2])
  have fm7_17 : m7 17 = F17 := by rw [em7, zCp_fn (by decide)]; exact fm6_17
  have fm7_18 : m7 18 = F18 := by rw [em7, zCp_fn (by decide)]; exact fm6_18
  have fm7_19 : m7 19 = F19 := by rw [em7, zCp_fn (by decide)]; exact fm6_19
  have fm7_20 : m7 20 = F20 := by rw [em7, zCp_fn (by decide)]; exact fm6_20
  have fm7_21 : m7 21 = F21 := by rw [em7, zCp_fn (by decide)]; exact fm6_21
  have fm7_22 : m7 22 = F22 := by rw [em7, zCp_fn (by decide)]; exact fm6_22
  have fm7_23 : m7 23 = F23 := by rw [em7, zCp_fn (by decide)]; exact fm6_23
  have fm7_24 : m7 24 = F24 := by rw [em7, zCp_fn (by decide)]; exact fm6_24
  have fm7_25 : m7 25 = F25 := by rw [em7, zCp_fn (by decide)]; exact fm6_25
  have fm7_26 : m7 26 = F26 := by rw [em7, zCp_fn (by decide)]; exact fm6_26
  have fm7_27 : m7 27 = F27 := by rw [em7, zCp_fn (by decide)]; exact fm6_27
  have fm7_2 : m7 2 = F2 := by rw [em7, zCp_fn (by decide)]; exact fm6_2
  have fm7_3 : m7 3 = F3 := by rw [em7, zCp_fn (by decide)]; exact fm6_3
  have fm7_4 : m7 4 = F4 := by rw [em7, zCp_fn (by decide)]; exact fm6_4
  have fm7_5 : m7 5 = F5 := by rw [em7, zCp_fn (by decide)]; exact fm6_5
  have fm7_6 : m7 6 = F6 := by rw [em7, zCp_fn (by decide)]; exact fm6_6
  have fm7_7 : m7 7 = F7 := by rw [em7, zCp_fn (by decide)]; exact fm6_7
  have fm7_8 : m7 8 = F8 := by rw [em7, zCp_fn (by decide)]; exact fm6_8
  have fm7_9 : m7 9 = F9 := by rw [em7, zCp_fn (by decide)]; exact fm6_9
  have fm7_10 : m7 10 = F10 := by rw [em7, zCp_fn (by decide)]; exact fm6_10
  have fm7_11 : m7 11 = F11 := by rw [em7, zCp_fn (by decide)]; exact fm6_11
  have fm7_12 : m7 12 = F12 := by rw [em7, zCp_fn (by decide)]; exact fm6_12
  have fm7_13 : m7 13 = F13 := by rw [em7, zCp_fn (by decide)]; exact fm6_13
  clear em7
  refine zw_7 zr_61_63 rfl ?_
  refine zw_46r (s := 3) zr_61_64 rfl rfl rfl rfl ?_
  refine zw_push zr_61_67 ?_
  refine zw_7 zr_61_68 rfl ?_
  refine zw_46r (s := 17) zr_61_69 rfl rfl rfl rfl ?_
  refine zw_push zr_61_72 ?_
  refine zw_push zr_61_73 ?_
  refine zw_114 (c1 := 17) (c2 := 3) (l1 := 40) (l2 := 40) zr_61_75 rfl rfl rfl rfl (by decide) (Nat.le_of_ble_eq_true rfl) (by omega) (by omega) ?_
  intro m8 em8
  have hIm8 : zInv m8 := by rw [em8]; exact zInv.cpS hIm7 (l2 := 40) (fun _ => rfl) rfl (by decide) (by decide) (by decide)
  have hFm8 : zFr W_61_15_1 m0 m8 := by rw [em8]; exact hFm7.cp rfl
  have km8_1_0 : m8 1 0 = g0 := by rw [em8, zCp_ne (by decide)]; exact km7_1_0
  have km8_1_1 : m8 1 1 = g1 := by rw [em8, zCp_ne (by decide)]; exact km7_1_1
  have km8_1_2 : m8 1 2 = g2 := by rw [em8, zCp_ne (by decide)]; exact km7_1_2
  have km8_1_3 : m8 1 3 = g3 := by rw [em8, zCp_ne (by decide)]; exact km7_1_3
  have km8_1_4 : m8 1 4 = g4 := by rw [em8, zCp_ne (by decide)]; exact km7_1_4
  have km8_1_5 : m8 1 5 = g5 := by rw [em8, zCp_ne (by decide)]; exact km7_1_5
  have km8_15_0 : m8 15 0 = g0 := by rw [em8, zCp_ne (by decide)]; exact km7_15_0
  have km8_15_1 : m8 15 1 = g1 := by rw [em8, zCp_ne (by decide)]; exact km7_15_1
  have km8_15_2 : m8 15 2 = g2 := by rw [em8, zCp_ne (by decide)]; exact km7_15_2
  have km8_15_3 : m8 15 3 = g3 := by rw [em8, zCp_ne (by decide)]; exact km7_15_3
  have km8_15_4 : m8 15 4 = g4 := by rw [em8, zCp_ne (by decide)]; exact km7_15_4
  have km8_15_5 : m8 15 5 = g5 := by rw [em8, zCp_ne (by decide)]; exact km7_15_5
  have fm8_16 : m8 16 = zCf F16 F2 10 := by rw [em8, zCp_fn (by decide)]; exact fm7_16
  have fm8_17 : m8 17 = zCf F17 F3 40 := by rw [em8]; exact (zCp_ff (m := m7) (c1 := 17) (c2 := 3) (n := 40) rfl rfl).trans (by rw [fm7_17, fm7_3])
  have fm8_18 : m8 18 = F18 := by rw [em8, zCp_fn (by decide)]; exact fm7_18
  have fm8_19 : m8 19 = F19 := by rw [em8, zCp_fn (by decide)]; exact fm7_19
  have fm8_20 : m8 20 = F20 := by rw [em8, zCp_fn (by decide)]; exact fm7_20
  have fm8_21 : m8 21 = F21 := by rw [em8, zCp_fn (by decide)]; exact fm7_21
  have fm8_22 : m8 22 = F22 := by rw [em8, zCp_fn (by decide)]; exact fm7_22
  have fm8_23 : m8 23 = F23 := by rw [em8, zCp_fn (by decide)]; exact fm7_23
  have fm8_24 : m8 24 = F24 := by rw [em8, zCp_fn (by decide)]; exact fm7_24
  have fm8_25 : m8 25 = F25 := by rw [em8, zCp_fn (by decide)]; exact fm7_25
  have fm8_26 : m8 26 = F26 := by rw [em8, zCp_fn (by decide)]; exact fm7_26
  have fm8_27 : m8 27 = F27 := by rw [em8, zCp_fn (by decide)]; exact fm7_27
  have fm8_2 : m8 2 = F2 := by rw [em8, zCp_fn (by decide)]; exact fm7_2
  have fm8_3 : m8 3 = F3 := by rw [em8, zCp_fn (by decide)]; exact fm7_3
  have fm8_4 : m8 4 = F4 := by rw [em8, zCp_fn (by decide)]; exact fm7_4
  have fm8_5 : m8 5 = F5 := by rw [em8, zCp_fn (by decide)]; exact fm7_5
  have fm8_6 : m8 6 = F6 := by rw [em8, zCp_fn (by decide)]; exact fm7_6
  have fm8_7 : m8 7 = F7 := by rw [em8, zCp_fn (by decide)]; exact fm7_7
  have fm8_8 : m8 8 = F8 := by rw [em8, zCp_fn (by decide)]; exact fm7_8
  have fm8_9 : m8 9 = F9 := by rw [em8, zCp_fn (by decide)]; exact fm7_9
  have fm8_10 : m8 10 = F10 := by rw [em8, zCp_fn (by decide)]; exact fm7_10
  have fm8_11 : m8 11 = F11 := by rw [em8, zCp_fn (by decide)]; exact fm7_11
  have fm8_12 : m8 12 = F12 := by rw [em8, zCp_fn (by decide)]; exact fm7_12
  have fm8_13 : m8 13 = F13 := by rw [em8, zCp_fn (by decide)]; exact fm7_13
  clear em8
  refine zw_7 zr_61_78 rfl ?_
  refine zw_46r (s := 4) zr_61_79 rfl rfl rfl rfl ?_
  refine zw_push zr_61_82 ?_
  refine zw_7 zr_61_83 rfl ?_
  refine zw_46r (s := 18) zr_61_84 rfl rfl rfl rfl ?_
  refine zw_push zr_61_87 ?_
  refine zw_push zr_61_88 ?_
  refine zw_114 (c1 := 18) (c2 := 4) (l1 := 40) (l2 := 40) zr_61_90 rfl rfl rfl rfl (by decide) (Nat.le_of_ble_eq_true rfl) (by omega) (by omega) ?_
  intro m9 em9
  have hIm9 : zInv m9 := by rw [em9]; exact zInv.cpS hIm8 (l2 := 40) (fun _ => rfl) rfl (by decide) (by decide) (by decide)
  have hFm9 : zFr W_61_15_1 m0 m9 := by rw [em9]; exact hFm8.cp rfl
  have km9_1_0 : m9 1 0 = g0 := by rw [em9, zCp_ne (by decide)]; exact km8_1_0
  have km9_1_1 : m9 1 1 = g1 := by rw [em9, zCp_ne (by decide)]; exact km8_1_1
  have km9_1_2 : m9 1 2 = g2 := by rw [em9, zCp_ne (by decide)]; exact km8_1_2
  have km9_1_3 : m9 1 3 = g3 := by rw [em9, zCp_ne (by decide)]; exact km8_1_3
  have km9_1_4 : m9 1 4 = g4 := by rw [em9, zCp_ne (by decide)]; exact km8_1_4
  have km9_1_5 : m9 1 5 = g5 := by rw [em9, zCp_ne (by decide)]; exact km8_1_5
  have km9_15_0 : m9 15 0 = g0 := by rw [em9, zCp_ne (by decide)]; exact km8_15_0
  have km9_15_1 : m9 15 1 = g1 := by rw [em9, zCp_ne (by decide)]; exact km8_15_1
  have km9_15_2 : m9 15 2 = g2 := by rw [em9, zCp_ne (by decide)]; exact km8_15_2
  have km9_15_3 : m9 15 3 = g3 := by rw [em9, zCp_ne (by decide)]; exact km8_15_3
  have km9_15_4 : m9 15 4 = g4 := by rw [em9, zCp_ne (by decide)]; exact km8_15_4
  have km9_15_5 : m9 15 5 = g5 := by rw [em9, zCp_ne (by decide)]; exact km8_15_5
  have fm9_16 : m9 16 = zCf F16 F2 10 := by rw [em9, zCp_fn (by decide)]; exact fm8_16
  have fm9_17 : m9 17 = zCf F17 F3 40 := by rw [em9, zCp_fn (by decide)]; exact fm8_17
  have fm9_18 : m9 18 = zCf F18 F4 40 := by rw [em9]; exact (zCp_ff (m := m8) (c1 := 18) (c2 := 4) (n := 40) rfl rfl).trans (by rw [fm8_18, fm8_4])
  have fm9_19 : m9 19 = F19 := by rw [em9, zCp_fn (by decide)]; exact fm8_19
  have fm9_20 : m9 20 = F20 := by rw [em9, zCp_fn (by decide)]; exact fm8_20
  have fm9_21 : m9 21 = F21 := by rw [em9, zCp_fn (by decide)]; exact fm8_21
  have fm9_22 : m9 22 = F22 := by rw [em9, zCp_fn (by decide)]; exact fm8_22
  have fm9_23 : m9 23 = F23 := by rw [em9, zCp_fn (by decide)]; exact fm8_23
  have fm9_24 : m9 24 = F24 := by rw [em9, zCp_fn (by decide)]; exact fm8_24
  have fm9_25 : m9 25 = F25 := by rw [em9, zCp_fn (by decide)]; exact fm8_25
  have fm9_26 : m9 26 = F26 := by rw [em9, zCp_fn (by decide)]; exact fm8_26
  have fm9_27 : m9 27 = F27 := by rw [em9, zCp_fn (by decide)]; exact fm8_27
  have fm9_2 : m9 2 = F2 := by rw [em9, zCp_fn (by decide)]; exact fm8_2
  have fm9_3 : m9 3 = F3 := by rw [em9, zCp_fn (by decide)]; exact fm8_3
  have fm9_4 : m9 4 = F4 := by rw [em9, zCp_fn (by decide)]; exact fm8_4
  have fm9_5 : m9 5 = F5 := by rw [em9, zCp_fn (by decide)]; exact fm8_5
  have fm9_6 : m9 6 = F6 := by rw [em9, zCp_fn (by decide)]; exact fm8_6
  have fm9_7 : m9 7 = F7 := by rw [em9, zCp_fn (by decide)]; exact fm8_7
  have fm9_8 : m9 8 = F8 := by rw [em9, zCp_fn (by decide)]; exact fm8_8
  have fm9_9 : m9 9 = F9 := by rw [em9, zCp_fn (by decide)]; exact fm8_9
  have fm9_10 : m9 10 = F10 := by rw [em9, zCp_fn (by decide)]; exact fm8_10
  have fm9_11 : m9 11 = F11 := by rw [em9, zCp_fn (by decide)]; exact fm8_11
  have fm9_12 : m9 12 = F12 := by rw [em9, zCp_fn (by decide)]; exact fm8_12
  have fm9_13 : m9 13 = F13 := by rw [em9, zCp_fn (by decide)]; exact fm8_13
  clear em9
  refine zw_7 zr_61_93 rfl ?_
  refine zw_46r (s := 5) zr_61_94 rfl rfl rfl rfl ?_
  refine zw_push zr_61_97 ?_
  refine zw_7 zr_61_98 rfl ?_
  refine zw_46r (s := 19) zr_61_99 rfl rfl rfl rfl ?_
  refine zw_push zr_61_102 ?_
  refine zw_push zr_61_103 ?_
  refine zw_114 (c1 := 19) (c2 := 5) (l1 := 60) (l2 := 60) zr_61_105 rfl rfl rfl rfl (by decide) (Nat.le_of_ble_eq_true rfl) (by omega) (by omega) ?_
  intro m10 em10
  have hIm10 : zInv m10 := by rw [em10]; exact zInv.cpS hIm9 (l2 := 60) (fun _ => rfl) rfl (by decide) (by decide) (by decide)
  have hFm10 : zFr W_61_15_1 m0 m10 := by rw [em10]; exact hFm9.cp rfl
  have km10_1_0 : m10 1 0 = g0 := by rw [em10, zCp_ne (by decide)]; exact km9_1_0
  have km10_1_1 : m10 1 1 = g1 := by rw [em10, zCp_ne (by decide)]; exact km9_1_1
  have km10_1_2 : m10 1 2 = g2 := by rw [em10, zCp_ne (by decide)]; exact km9_1_2
  have km10_1_3 : m10 1 3 = g3 := by rw [em10, zCp_ne (by decide)]; exact km9_1_3
  have km10_1_4 : m10 1 4 = g4 := by rw [em10, zCp_ne (by decide)]; exact km9_1_4
  have km10_1_5 : m10 1 5 = g5 := by rw [em10, zCp_ne (by decide)]; exact km9_1_5
  have km10_15_0 : m10 15 0 = g0 := by rw [em10, zCp_ne (by decide)]; exact km9_15_0
  have km10_15_1 : m10 15 1 = g1 := by rw [em10, zCp_ne (by decide)]; exact km9_15_1
  have km10_15_2 : m10 15 2 = g2 := by rw [em10, zCp_ne (by decide)]; exact km9_15_2
  have km10_15_3 : m10 15 3 = g3 := by rw [em10, zCp_ne (by decide)]; exact km9_15_3
  have km10_15_4 : m10 15 4 = g4 := by rw [em10, zCp_ne (by decide)]; exact km9_15_4
  have km10_15_5 : m10 15 5 = g5 := by rw [em10, zCp_ne (by decide)]; exact km9_15_5
  have fm10_16 : m10 16 = zCf F16 F2 10 := by rw [em10, zCp_fn (by decide)]; exact fm9_16
  have fm10_17 : m10 17 = zCf F17 F3 40 := by rw [em10, zCp_fn (by decide)]; exact fm9_17
  have fm10_18 : m10 18 = zCf F18 F4 40 := by rw [em10, zCp_fn (by decide)]; exact fm9_18
  have fm10_19 : m10 19 = zCf F19 F5 60 := by rw [em10]; exact (zCp_ff (m := m9) (c1 := 19) (c2 := 5) (n := 60) rfl rfl).trans (by rw [fm9_19, fm9_5])
  have fm10_20 : m10 20 = F20 := by rw [em10, zCp_fn (by decide)]; exact fm9_20
  have fm10_21 : m10 21 = F21 := by rw [em10, zCp_fn (by decide)]; exact fm9_21
  have fm10_22 : m10 22 = F22 := by rw [em10, zCp_fn (by decide)]; exact fm9_22
  have fm10_23 : m10 23 = F23 := by rw [em10, zCp_fn (by decide)]; exact fm9_23
  have fm10_24 : m10 24 = F24 := by rw [em10, zCp_fn (by decide)]; exact fm9_24
  have fm10_25 : m10 25 = F25 := by rw [em10, zCp_fn (by decide)]; exact fm9_25
  have fm10_26 : m10 26 = F26 := by rw [em10, zCp_fn (by decide)]; exact fm9_26
  have fm10_27 : m10 27 = F27 := by rw [em10, zCp_fn (by decide)]; exact fm9_27
  have fm10_2 : m10 2 = F2 := by rw [em10, zCp_fn (by decide)]; exact fm9_2
  have fm10_3 : m10 3 = F3 := by rw [em10, zCp_fn (by decide)]; exact fm9_3
  have fm10_4 : m10 4 = F4 := by rw [em10, zCp_fn (by decide)]; exact fm9_4
  have fm10_5 : m10 5 = F5 := by rw [em10, zCp_fn (by decide)]; exact fm9_5
  have fm10_6 : m10 6 = F6 := by rw [em10, zCp_fn (by decide)]; exact fm9_6
  have fm10_7 : m10 7 = F7 := by rw [em10, zCp_fn (by decide)]; exact fm9_7
  have fm10_8 : m10 8 = F8 := by rw [em10, zCp_fn (by decide)]; exact fm9_8
  have fm10_9 : m10 9 = F9 := by rw [em10, zCp_fn (by decide)]; exact fm9_9
  have fm10_10 : m10 10 = F10 := by rw [em10, zCp_fn (by decide)]; exact fm9_10
  have fm10_11 : m10 11 = F11 := by rw [em10, zCp_fn (by decide)]; exact fm9_11
  have fm10_12 : m10 12 = F12 := by rw [em10, zCp_fn (by decide)]; exact fm9_12
  have fm10_13 : m10 13 = F13 := by rw [em10, zCp_fn (by decide)]; exact fm9_13
  clear em10
  refine zw_7 zr_61_108 rfl ?_
  refine zw_46r (s := 6) zr_61_109 rfl rfl rfl rfl ?_
  refine zw_push zr_61_112 ?_
  refine zw_7 zr_61_113 rfl ?_
  refine zw_46r (s := 20) zr_61_114 rfl rfl rfl rfl ?_
  refine zw_push zr_61_117 ?_
  refine zw_push zr_61_118 ?_
  refine zw_114 (c1 := 20) (c2 := 6) (l1 := 60) (l2 := 60) zr_61_120 rfl rfl rfl rfl (by decide) (Nat.le_of_ble_eq_true rfl) (by omega) (by omega) ?_
  intro m11 em11
  have hIm11 : zInv m11 := by rw [em11]; exact zInv.cpS hIm10 (l2 := 60) (fun _ => rfl) rfl (by decide) (by decide) (by decide)
  have hFm11 : zFr W_61_15_1 m0 m11 := by rw [em11]; exact hFm10.cp rfl
  have km11_1_0 : m11 1 0 = g0 := by rw [em11, zCp_ne (by decide)]; exact km10_1_0
  have km11_1_1 : m11 1 1 = g1 := by rw [em11, zCp_ne (by decide)]; exact km10_1_1
  have km11_1_2 : m11 1 2 = g2 := by rw [em11, zCp_ne (by decide)]; exact km10_1_2
  have km11_1_3 : m11 1 3 = g3 := by rw [em11, zCp_ne (by decide)]; exact km10_1_3
  have km11_1_4 : m11 1 4 = g4 := by rw [em11, zCp_ne (by decide)]; exact km10_1_4
  have km11_1_5 : m11 1 5 = g5 := by rw [em11, zCp_ne (by decide)]; exact km10_1_5
  have km11_15_0 : m11 15 0 = g0 := by rw [em11, zCp_ne (by decide)]; exact km10_15_0
  have km11_15_1 : m11 15 1 = g1 := by rw [em11, zCp_ne (by decide)]; exact km10_15_1
  have km11_15_2 : m11 15 2 = g2 := by rw [em11, zCp_ne (by decide)]; exact km10_15_2
  have km11_15_3 : m11 15 3 = g3 := by rw [em11, zCp_ne (by decide)]; exact km10_15_3
  have km11_15_4 : m11 15 4 = g4 := by rw [em11, zCp_ne (by decide)]; exact km10_15_4
  have km11_15_5 : m11 15 5 = g5 := by rw [em11, zCp_ne (by decide)]; exact km10_15_5
  have fm11_16 : m11 16 = zCf F16 F2 10 := by rw [em11, zCp_fn (by decide)]; exact fm10_16
  have fm11_17 : m11 17 = zCf F17 F3 40 := by rw [em11, zCp_fn (by decide)]; exact fm10_17
  have fm11_18 : m11 18 = zCf F18 F4 40 := by rw [em11, zCp_fn (by decide)]; exact fm10_18
  have fm11_19 : m11 19 = zCf F19 F5 60 := by rw [em11, zCp_fn (by decide)]; exact fm10_19
  have fm11_20 : m11 20 = zCf F20 F6 60 := by rw [em11]; exact (zCp_ff (m := m10) (c1 := 20) (c2 := 6) (n := 60) rfl rfl).trans (by rw [fm10_20, fm10_6])
  have fm11_21 : m11 21 = F21 := by rw [em11, zCp_fn (by decide)]; exact fm10_21
  have fm11_22 : m11 22 = F22 := by rw [em11, zCp_fn (by decide)]; exact fm10_22
  have fm11_23 : m11 23 = F23 := by rw [em11, zCp_fn (by decide)]; exact fm10_23
  have fm11_24 : m11 24 = F24 := by rw [em11, zCp_fn (by decide)]; exact fm10_24
  have fm11_25 : m11 25 = F25 := by rw [em11, zCp_fn (by decide)]; exact fm10_25
  have fm11_26 : m11 26 = F26 := by rw [em11, zCp_fn (by decide)]; exact fm10_26
  have fm11_27 : m11 27 = F27 := by rw [em11, zCp_fn (by decide)]; exact fm10_27
  have fm11_2 : m11 2 = F2 := by rw [em11, zCp_fn (by decide)]; exact fm10_2
  have fm11_3 : m11 3 = F3 := by rw [em11, zCp_fn (by decide)]; exact fm10_3
  have fm11_4 : m11 4 = F4 := by rw [em11, zCp_fn (by decide)]; exact fm10_4
  have fm11_5 : m11 5 = F5 := by rw [em11, zCp_fn (by decide)]; exact fm10_5
  have fm11_6 : m11 6 = F6 := by rw [em11, zCp_fn (by decide)]; exact fm10_6
  have fm11_7 : m11 7 = F7 := by rw [em11, zCp_fn (by decide)]; exact fm10_7
  have fm11_8 : m11 8 = F8 := by rw [em11, zCp_fn (by decide)]; exact fm10_8
  have fm11_9 : m11 9 = F9 := by rw [em11, zCp_fn (by decide)]; exact fm10_9
  have fm11_10 : m11 10 = F10 := by rw [em11, zCp_fn (by decide)]; exact fm10_10
  have fm11_11 : m11 11 = F11 := by rw [em11, zCp_fn (by decide)]; exact fm10_11
  have fm11_12 : m11 12 = F12 := by rw [em11, zCp_fn (by decide)]; exact fm10_12
  have fm11_13 : m11 13 = F13 := by rw [em11, zCp_fn (by decide)]; exact fm10_13
  clear em11
  refine zw_7 zr_61_123 rfl ?_
  refine zw_46r (s := 7) zr_61_124 rfl rfl rfl rfl ?_
  refine zw_push zr_61_127 ?_
  refine zw_7 zr_61_128 rfl ?_
  refine zw_46r (s := 21) zr_61_129 rfl rfl rfl rfl ?_
  refine zw_push zr_61_132 ?_
  refine zw_push zr_61_133 ?_
  refine zw_114 (c1 := 21) (c2 := 7) (l1 := 60) (l2 := 60) zr_61_135 rfl rfl rfl rfl (by decide) (Nat.le_of_ble_eq_true rfl) (by omega) (by omega) ?_
  intro m12 em12
  have hIm12 : zInv m12 := by rw [em12]; exact zInv.cpS hIm11 (l2 := 60) (fun _ => rfl) rfl (by decide) (by decide) (by decide)
  have hFm12 : zFr W_61_15_1 m0 m12 := by rw [em12]; exact hFm11.cp rfl
  have km12_1_0 : m12 1 0 = g0 := by rw [em12, zCp_ne (by decide)]; exact km11_1_0
  have km12_1_1 : m12 1 1 = g1 := by rw [em12, zCp_ne (by decide)]; exact km11_1_1
  have km12_1_2 : m12 1 2 = g2 := by rw [em12, zCp_ne (by decide)]; exact km11_1_2
  have km12_1_3 : m12 1 3 = g3 := by rw [em12, zCp_ne (by decide)]; exact km11_1_3
  have km12_1_4 : m12 1 4 = g4 := by rw [em12, zCp_ne (by decide)]; exact km11_1_4
  have km12_1_5 : m12 1 5 = g5 := by rw [em12, zCp_ne (by decide)]; exact km11_1_5
  have km12_15_0 : m12 15 0 = g0 := by rw [em12, zCp_ne (by decide)]; exact km11_15_0
  have km12_15_1 : m12 15 1 = g1 := by rw [em12, zCp_ne (by decide)]; exact km11_15_1
  have km12_15_2 : m12 15 2 = g2 := by rw [em12, zCp_ne (by decide)]; exact km11_15_2
  have km12_15_3 : m12 15 3 = g3 := by rw [em12, zCp_ne (by decide)]; exact km11_15_3
  have km12_15_4 : m12 15 4 = g4 := by rw [em12, zCp_ne (by decide)]; exact km11_15_4
  have km12_15_5 : m12 15 5 = g5 := by rw [em12, zCp_ne (by decide)]; exact km11_15_5
  have fm12_16 : m12 16 = zCf F16 F2 10 := by rw [em12, zCp_fn (by decide)]; exact fm11_16
  have fm12_17 : m12 17 = zCf F17 F3 40 := by rw [em12, zCp_fn (by decide)]; exact fm11_17
  have fm12_18 : m12 18 = zCf F18 F4 40 := by rw [em12, zCp_fn (by decide)]; exact fm11_18
  have fm12_19 : m12 19 = zCf F19 F5 60 := by rw [em12, zCp_fn (by decide)]; exact fm11_19
  have fm12_20 : m12 20 = zCf F20 F6 60 := by rw [em12, zCp_fn (by decide)]; exact fm11_20
  have fm12_21 : m12 21 = zCf F21 F7 60 := by rw [em12]; exact (zCp_ff (m := m11) (c1 := 21) (c2 := 7) (n := 60) rfl rfl).trans (by rw [fm11_21, fm11_7])
  have fm12_22 : m12 22 = F22 := by rw [em12, zCp_fn (by decide)]; exact fm11_22
  have fm12_23 : m12 23 = F23 := by rw [em12, zCp_fn (by decide)]; exact fm11_23
  have fm12_24 : m12 24 = F24 := by rw [em12, zCp_fn (by decide)]; exact fm11_24
  have fm12_25 : m12 25 = F25 := by rw [em12, zCp_fn (by decide)]; exact fm11_25
  have fm12_26 : m12 26 = F26 := by rw [em12, zCp_fn (by decide)]; exact fm11_26
  have fm12_27 : m12 27 = F27 := by rw [em12, zCp_fn (by decide)]; exact fm11_27
  have fm12_2 : m12 2 = F2 := by rw [em12, zCp_fn (by decide)]; exact fm11_2
  have fm12_3 : m12 3 = F3 := by rw [em12, zCp_fn (by decide)]; exact fm11_3
  have fm12_4 : m12 4 = F4 := by rw [em12, zCp_fn (by decide)]; exact fm11_4
  have fm12_5 : m12 5 = F5 := by rw [em12, zCp_fn (by decide)]; exact fm11_5
  have fm12_6 : m12 6 = F6 := by rw [em12, zCp_fn (by decide)]; exact fm11_6
  have fm12_7 : m12 7 = F7 := by rw [em12, zCp_fn (by decide)]; exact fm11_7
  have fm12_8 : m12 8 = F8 := by rw [em12, zCp_fn (by decide)]; exact fm11_8
  have fm12_9 : m12 9 = F9 := by rw [em12, zCp_fn (by decide)]; exact fm11_9
  have fm12_10 : m12 10 = F10 := by rw [em12, zCp_fn (by decide)]; exact fm11_10
  have fm12_11 : m12 11 = F11 := by rw [em12, zCp_fn (by decide)]; exact fm11_11
  have fm12_12 : m12 12 = F12 := by rw [em12, zCp_fn (by decide)]; exact fm11_12
  have fm12_13 : m12 13 = F13 := by rw [em12, zCp_fn (by decide)]; exact fm11_13
  clear em12
  refine zw_7 zr_61_138 rfl ?_
  refine zw_46r (s := 8) zr_61_139 rfl rfl rfl rfl ?_
  refine zw_push zr_61_142 ?_
  refine zw_7 zr_61_143 rfl ?_
  refine zw_46r (s := 22) zr_61_144 rfl rfl rfl rfl ?_
  refine zw_push zr_61_147 ?_
  refine zw_push zr_61_148 ?_
  refine zw_114 (c1 := 22) (c2 := 8) (l1 := 60) (l2 := 60) zr_61_150 rfl rfl rfl rfl (by decide) (Nat.le_of_ble_eq_true rfl) (by omega) (by omega) ?_
  intro m13 em13
  have hIm13 : zInv m13 := by rw [em13]; exact zInv.cpS hIm12 (l2 := 60) (fun _ => rfl) rfl (by decide) (by decide) (by decide)
  have hFm13 : zFr W_61_15_1 m0 m13 := by rw [em13]; exact hFm12.cp rfl
  have km13_1_0 : m13 1 0 = g0 := by rw [em13, zCp_ne (by decide)]; exact km12_1_0
  have km13_1_1 : m13 1 1 = g1 := by rw [em13, zCp_ne (by decide)]; exact km12_1_1
  have km13_1_2 : m13 1 2 = g2 := by rw [em13, zCp_ne (by decide)]; exact km12_1_2
  have km13_1_3 : m13 1 3 = g3 := by rw [em13, zCp_ne (by decide)]; exact km12_1_3
  have km13_1_4 : m13 1 4 = g4 := by rw [em13, zCp_ne (by decide)]; exact km12_1_4
  have km13_1_5 : m13 1 5 = g5 := by rw [em13, zCp_ne (by decide)]; exact km12_1_5
  have km13_15_0 : m13 15 0 = g0 := by rw [em13, zCp_ne (by decide)]; exact km12_15_0
  have km13_15_1 : m13 15 1 = g1 := by rw [em13, zCp_ne (by decide)]; exact km12_15_1
  have km13_15_2 : m13 15 2 = g2 := by rw [em13, zCp_ne (by decide)]; exact km12_15_2
  have km13_15_3 : m13 15 3 = g3 := by rw [em13, zCp_ne (by decide)]; exact km12_15_3
  have km13_15_4 : m13 15 4 = g4 := by rw [em13, zCp_ne (by decide)]; exact km12_15_4
  have km13_15_5 : m13 15 5 = g5 := by rw [em13, zCp_ne (by decide)]; exact km12_15_5
  have fm13_16 : m13 16 = zCf F16 F2 10 := by rw [em13, zCp_fn (by decide)]; exact fm12_16
  have fm13_17 : m13 17 = zCf F17 F3 40 := by rw [em13, zCp_fn (by decide)]; exact fm12_17
  have fm13_18 : m13 18 = zCf F18 F4 40 := by rw [em13, zCp_fn (by decide)]; exact fm12_18
  have fm13_19 : m13 19 = zCf F19 F5 60 := by rw [em13, zCp_fn (by decide)]; exact fm12_19
  have fm13_20 : m13 20 = zCf F20 F6 60 := by rw [em13, zCp_fn (by decide)]; exact fm12_20
  have fm13_21 : m13 21 = zCf F21 F7 60 := by rw [em13, zCp_fn (by decide)]; exact fm12_21
  have fm13_22 : m13 22 = zCf F22 F8 60 := by rw [em13]; exact (zCp_ff (m := m12) (c1 := 22) (c2 := 8) (n := 60) rfl rfl).trans (by rw [fm12_22, fm12_8])
  have fm13_23 : m13 23 = F23 := by rw [em13, zCp_fn (by decide)]; exact fm12_23
  have fm13_24 : m13 24 = F24 := by rw [em13, zCp_fn (by decide)]; exact fm12_24
  have fm13_25 : m13 25 = F25 := by rw [em13, zCp_fn (by decide)]; exact fm12_25
  have fm13_26 : m13 26 = F26 := by rw [em13, zCp_fn (by decide)]; exact fm12_26
  have fm13_27 : m13 27 = F27 := by rw [em13, zCp_fn (by decide)]; exact fm12_27
  have fm13_2 : m13 2 = F2 := by rw [em13, zCp_fn (by decide)]; exact fm12_2
  have fm13_3 : m13 3 = F3 := by rw [em13, zCp_fn (by decide)]; exact fm12_3
  have fm13_4 : m13 4 = F4 := by rw [em13, zCp_fn (by decide)]; exact fm12_4
  have fm13_5 : m13 5 = F5 := by rw [em13, zCp_fn (by decide)]; exact fm12_5
  have fm13_6 : m13 6 = F6 := by rw [em13, zCp_fn (by decide)]; exact fm12_6
  have fm13_7 : m13 7 = F7 := by rw [em13, zCp_fn (by decide)]; exact fm12_7
  have fm13_8 : m13 8 = F8 := by rw [em13, zCp_fn (by decide)]; exact fm12_8
  have fm13_9 : m13 9 = F9 := by rw [em13, zCp_fn (by decide)]; exact fm12_9
  have fm13_10 : m13 10 = F10 := by rw [em13, zCp_fn (by decide)]; exact fm12_10
  have fm13_11 : m13 11 = F11 := by rw [em13, zCp_fn (by decide)]; exact fm12_11
  have fm13_12 : m13 12 = F12 := by rw [em13, zCp_fn (by decide)]; exact fm12_12
  have fm13_13 : m13 13 = F13 := by rw [em13, zCp_fn (by decide)]; exact fm12_13
  clear em13
  refine zw_7 zr_61_153 rfl ?_
  refine zw_46r (s := 9) zr_61_154 rfl rfl rfl rfl ?_
  refine zw_push zr_61_157 ?_
  refine zw_7 zr_61_158 rfl ?_
  refine zw_46r (s := 23) zr_61_159 rfl rfl rfl rfl ?_
  refine zw_push zr_61_162 ?_
  refine zw_push zr_61_163 ?_
  refine zw_114 (c1 := 23) (c2 := 9) (l1 := 4) (l2 := 4) zr_61_164 rfl rfl rfl rfl (by decide) (Nat.le_of_ble_eq_true rfl) (by omega) (by omega) ?_
  intro m14 em14
  have hIm14 : zInv m14 := by rw [em14]; exact zInv.cpS hIm13 (l2 := 4) (fun _ => rfl) rfl (by decide) (by decide) (by decide)
  have hFm14 : zFr W_61_15_1 m0 m14 := by rw [em14]; exact hFm13.cp rfl
  have km14_1_0 : m14 1 0 = g0 := by rw [em14, zCp_ne (by decide)]; exact km13_1_0
  have km14_1_1 : m14 1 1 = g1 := by rw [em14, zCp_ne (by decide)]; exact km13_1_1
  have km14_1_2 : m14 1 2 = g2 := by rw [em14, zCp_ne (by decide)]; exact km13_1_2
  have km14_1_3 : m14 1 3 = g3 := by rw [em14, zCp_ne (by decide)]; exact km13_1_3
  have km14_1_4 : m14 1 4 = g4 := by rw [em14, zCp_ne (by decide)]; exact km13_1_4
  have km14_1_5 : m14 1 5 = g5 := by rw [em14, zCp_ne (by decide)]; exact km13_1_5
  have km14_15_0 : m14 15 0 = g0 := by rw [em14, zCp_ne (by decide)]; exact km13_15_0
  have km14_15_1 : m14 15 1 = g1 := by rw [em14, zCp_ne (by decide)]; exact km13_15_1
  have km14_15_2 : m14 15 2 = g2 := by rw [em14, zCp_ne (by decide)]; exact km13_15_2
  have km14_15_3 : m14 15 3 = g3 := by rw [em14, zCp_ne (by decide)]; exact km13_15_3
  have km14_15_4 : m14 15 4 = g4 := by rw [em14, zCp_ne (by decide)]; exact km13_15_4
  have km14_15_5 : m14 15 5 = g5 := by rw [em14, zCp_ne (by decide)]; exact km13_15_5
  have fm14_16 : m14 16 = zCf F16 F2 10 := by rw [em14, zCp_fn (by decide)]; exact fm13_16
  have fm14_17 : m14 17 = zCf F17 F3 40 := by rw [em14, zCp_fn (by decide)]; exact fm13_17
  have fm14_18 : m14 18 = zCf F18 F4 40 := by rw [em14, zCp_fn (by decide)]; exact fm13_18
  have fm14_19 : m14 19 = zCf F19 F5 60 := by rw [em14, zCp_fn (by decide)]; exact fm13_19
  have fm14_20 : m14 20 = zCf F20 F6 60 := by rw [em14, zCp_fn (by decide)]; exact fm13_20
  have fm14_21 : m14 21 = zCf F21 F7 60 := by rw [em14, zCp_fn (by decide)]; exact fm13_21
  have fm14_22 : m14 22 = zCf F22 F8 60 := by rw [em14, zCp_fn (by decide)]; exact fm13_22
  have fm14_23 : m14 23 = zCf F23 F9 4 := by rw [em14]; exact (zCp_ff (m := m13) (c1 := 23) (c2 := 9) (n := 4) rfl rfl).trans (by rw [fm13_23, fm13_9])
  have fm14_24 : m14 24 = F24 := by rw [em14, zCp_fn (by decide)]; exact fm13_24
  have fm14_25 : m14 25 = F25 := by rw [em14, zCp_fn (by decide)]; exact fm13_25
  have fm14_26 : m14 26 = F26 := by rw [em14, zCp_fn (by decide)]; exact fm13_26
  have fm14_27 : m14 27 = F27 := by rw [em14, zCp_fn (by decide)]; exact fm13_27
  have fm14_2 : m14 2 = F2 := by rw [em14, zCp_fn (by decide)]; exact fm13_2
  have fm14_3 : m14 3 = F3 := by rw [em14, zCp_fn (by decide)]; exact fm13_3
  have fm14_4 : m14 4 = F4 := by rw [em14, zCp_fn (by decide)]; exact fm13_4
  have fm14_5 : m14 5 = F5 := by rw [em14, zCp_fn (by decide)]; exact fm13_5
  have fm14_6 : m14 6 = F6 := by rw [em14, zCp_fn (by decide)]; exact fm13_6
  have fm14_7 : m14 7 = F7 := by rw [em14, zCp_fn (by decide)]; exact fm13_7
  have fm14_8 : m14 8 = F8 := by rw [em14, zCp_fn (by decide)]; exact fm13_8
  have fm14_9 : m14 9 = F9 := by rw [em14, zCp_fn (by decide)]; exact fm13_9
  have fm14_10 : m14 10 = F10 := by rw [em14, zCp_fn (by decide)]; exact fm13_10
  have fm14_11 : m14 11 = F11 := by rw [em14, zCp_fn (by decide)]; exact fm13_11
  have fm14_12 : m14 12 = F12 := by rw [em14, zCp_fn (by decide)]; exact fm13_12
  have fm14_13 : m14 13 = F13 := by rw [em14, zCp_fn (by decide)]; exact fm13_13
  clear em14
  refine zw_7 zr_61_167 rfl ?_
  refine zw_46r (s := 10) zr_61_168 rfl rfl rfl rfl ?_
  refine zw_push zr_61_171 ?_
  refine zw_7 zr_61_172 rfl ?_
  refine zw_46r (s := 24) zr_61_173 rfl rfl rfl rfl ?_
  refine zw_push zr_61_176 ?_
  refine zw_push zr_61_177 ?_
  refine zw_114 (c1 := 24) (c2 := 10) (l1 := 4) (l2 := 4) zr_61_178 rfl rfl rfl rfl (by decide) (Nat.le_of_ble_eq_true rfl) (by omega) (by omega) ?_
  intro m15 em15
  have hIm15 : zInv m15 := by rw [em15]; exact zInv.cpS hIm14 (l2 := 4) (fun _ => rfl) rfl (by decide) (by decide) (by decide)
  have hFm15 : zFr W_61_15_1 m0 m15 := by rw [em15]; exact hFm14.cp rfl
  have km15_1_0 : m15 1 0 = g0 := by rw [em15, zCp_ne (by decide)]; exact km14_1_0
  have km15_1_1 : m15 1 1 = g1 := by rw [em15, zCp_ne (by decide)]; exact km14_1_1
  have km15_1_2 : m15 1 2 = g2 := by rw [em15, zCp_ne (by decide)]; exact km14_1_2
  have km15_1_3 : m15 1 3 = g3 := by rw [em15, zCp_ne (by decide)]; exact km14_1_3
  have km15_1_4 : m15 1 4 = g4 := by rw [em15, zCp_ne (by decide)]; exact km14_1_4
  have km15_1_5 : m15 1 5 = g5 := by rw [em15, zCp_ne (by decide)]; exact km14_1_5
  have km15_15_0 : m15 15 0 = g0 := by rw [em15, zCp_ne (by decide)]; exact km14_15_0
  have km15_15_1 : m15 15 1 = g1 := by rw [em15, zCp_ne (by decide)]; exact km14_15_1
  have km15_15_2 : m15 15 2 = g2 := by rw [em15, zCp_ne (by decide)]; exact km14_15_2
  have km15_15_3 : m15 15 3 = g3 := by rw [em15, zCp_ne (by decide)]; exact km14_15_3
  have km15_15_4 : m15 15 4 = g4 := by rw [em15, zCp_ne (by decide)]; exact km14_15_4
  have km15_15_5 : m15 15 5 = g5 := by rw [em15, zCp_ne (by decide)]; exact km14_15_5
  have fm15_16 : m15 16 = zCf F16 F2 10 := by rw [em15, zCp_fn (by decide)]; exact fm14_16
  have fm15_17 : m15 17 = zCf F17 F3 40 := by rw [em15, zCp_fn (by decide)]; exact fm14_17
  have fm15_18 : m15 18 = zCf F18 F4 40 := by rw [em15, zCp_fn (by decide)]; exact fm14_18
  have fm15_19 : m15 19 = zCf F19 F5 60 := by rw [em15, zCp_fn (by decide)]; exact fm14_19
  have fm15_20 : m15 20 = zCf F20 F6 60 := by rw [em15, zCp_fn (by decide)]; exact fm14_20
  have fm15_21 : m15 21 = zCf F21 F7 60 := by rw [em15, zCp_fn (by decide)]; exact fm14_21
  have fm15_22 : m15 22 = zCf F22 F8 60 := by rw [em15, zCp_fn (by decide)]; exact fm14_22
  have fm15_23 : m15 23 = zCf F23 F9 4 := by rw [em15, zCp_fn (by decide)]; exact fm14_23
  have fm15_24 : m15 24 = zCf F24 F10 4 := by rw [em15]; exact (zCp_ff (m := m14) (c1 := 24) (c2 := 10) (n := 4) rfl rfl).trans (by rw [fm14_24, fm14_10])
  have fm15_25 : m15 25 = F25 := by rw [em15, zCp_fn (by decide)]; exact fm14_25
  have fm15_26 : m15 26 = F26 := by rw [em15, zCp_fn (by decide)]; exact fm14_26
  have fm15_27 : m15 27 = F27 := by rw [em15, zCp_fn (by decide)]; exact fm14_27
  have fm15_2 : m15 2 = F2 := by rw [em15, zCp_fn (by decide)]; exact fm14_2
  have fm15_3 : m15 3 = F3 := by rw [em15, zCp_fn (by decide)]; exact fm14_3
  have fm15_4 : m15 4 = F4 := by rw [em15, zCp_fn (by decide)]; exact fm14_4
  have fm15_5 : m15 5 = F5 := by rw [em15, zCp_fn (by decide)]; exact fm14_5
  have fm15_6 : m15 6 = F6 := by rw [em15, zCp_fn (by decide)]; exact fm14_6
  have fm15_7 : m15 7 = F7 := by rw [em15, zCp_fn (by decide)]; exact fm14_7
  have fm15_8 : m15 8 = F8 := by rw [em15, zCp_fn (by decide)]; exact fm14_8
  have fm15_9 : m15 9 = F9 := by rw [em15, zCp_fn (by decide)]; exact fm14_9
  have fm15_10 : m15 10 = F10 := by rw [em15, zCp_fn (by decide)]; exact fm14_10
  have fm15_11 : m15 11 = F11 := by rw [em15, zCp_fn (by decide)]; exact fm14_11
  have fm15_12 : m15 12 = F12 := by rw [em15, zCp_fn (by decide)]; exact fm14_12
  have fm15_13 : m15 13 = F13 := by rw [em15, zCp_fn (by decide)]; exact fm14_13
  clear em15
  refine zw_7 zr_61_181 rfl ?_
  refine zw_46r (s := 11) zr_61_182 rfl rfl rfl rfl ?_
  refine zw_push zr_61_185 ?_
  refine zw_7 zr_61_186 rfl ?_
  refine zw_46r (s := 25) zr_61_187 rfl rfl rfl rfl ?_
  refine zw_push zr_61_190 ?_
  refine zw_push zr_61_191 ?_
  refine zw_114 (c1 := 25) (c2 := 11) (l1 := 200) (l2 := 200) zr_61_194 rfl rfl rfl rfl (by decide) (Nat.le_of_ble_eq_true rfl) (by omega) (by omega) ?_
  intro m16 em16
  have hIm16 : zInv m16 := by rw [em16]; exact zInv.cpS hIm15 (l2 := 200) (fun _ => rfl) rfl (by decide) (by decide) (by decide)
  have hFm16 : zFr W_61_15_1 m0 m16 := by rw [em16]; exact hFm15.cp rfl
  have km16_1_0 : m16 1 0 = g0 := by rw [em16, zCp_ne (by decide)]; exact km15_1_0
  have km16_1_1 : m16 1 1 = g1 := by rw [em16, zCp_ne (by decide)]; exact km15_1_1
  have km16_1_2 : m16 1 2 = g2 := by rw [em16, zCp_ne (by decide)]; exact km15_1_2
  have km16_1_3 : m16 1 3 = g3 := by rw [em16, zCp_ne (by decide)]; exact km15_1_3
  have km16_1_4 : m16 1 4 = g4 := by rw [em16, zCp_ne (by decide)]; exact km15_1_4
  have km16_1_5 : m16 1 5 = g5 := by rw [em16, zCp_ne (by decide)]; exact km15_1_5
  have km16_15_0 : m16 15 0 = g0 := by rw [em16, zCp_ne (by decide)]; exact km15_15_0
  have km16_15_1 : m16 15 1 = g1 := by rw [em16, zCp_ne (by decide)]; exact km15_15_1
  have km16_15_2 : m16 15 2 = g2 := by rw [em16, zCp_ne (by decide)]; exact km15_15_2
  have km16_15_3 : m16 15 3 = g3 := by rw [em16, zCp_ne (by decide)]; exact km15_15_3
  have km16_15_4 : m16 15 4 = g4 := by rw [em16, zCp_ne (by decide)]; exact km15_15_4
  have km16_15_5 : m16 15 5 = g5 := by rw [em16, zCp_ne (by decide)]; exact km15_15_5
  have fm16_16 : m16 16 = zCf F16 F2 10 := by rw [em16, zCp_fn (by decide)]; exact fm15_16
  have fm16_17 : m16 17 = zCf F17 F3 40 := by rw [em16, zCp_fn (by decide)]; exact fm15_17
  have fm16_18 : m16 18 = zCf F18 F4 40 := by rw [em16, zCp_fn (by decide)]; exact fm15_18
  have fm16_19 : m16 19 = zCf F19 F5 60 := by rw [em16, zCp_fn (by decide)]; exact fm15_19
  have fm16_20 : m16 20 = zCf F20 F6 60 := by rw [em16, zCp_fn (by decide)]; exact fm15_20
  have fm16_21 : m16 21 = zCf F21 F7 60 := by rw [em16, zCp_fn (by decide)]; exact fm15_21
  have fm16_22 : m16 22 = zCf F22 F8 60 := by rw [em16, zCp_fn (by decide)]; exact fm15_22
  have fm16_23 : m16 23 = zCf F23 F9 4 := by rw [em16, zCp_fn (by decide)]; exact fm15_23
  have fm16_24 : m16 24 = zCf F24 F10 4 := by rw [em16, zCp_fn (by decide)]; exact fm15_24
  have fm16_25 : m16 25 = zCf F25 F11 200 := by rw [em16]; exact (zCp_ff (m := m15) (c1 := 25) (c2 := 11) (n := 200) rfl rfl).trans (by rw [fm15_25, fm15_11])
  have fm16_26 : m16 26 = F26 := by rw [em16, zCp_fn (by decide)]; exact fm15_26
  have fm16_27 : m16 27 = F27 := by rw [em16, zCp_fn (by decide)]; exact fm15_27
  have fm16_2 : m16 2 = F2 := by rw [em16, zCp_fn (by decide)]; exact fm15_2
  have fm16_3 : m16 3 = F3 := by rw [em16, zCp_fn (by decide)]; exact fm15_3
  have fm16_4 : m16 4 = F4 := by rw [em16, zCp_fn (by decide)]; exact fm15_4
  have fm16_5 : m16 5 = F5 := by rw [em16, zCp_fn (by decide)]; exact fm15_5
  have fm16_6 : m16 6 = F6 := by rw [em16, zCp_fn (by decide)]; exact fm15_6
  have fm16_7 : m16 7 = F7 := by rw [em16, zCp_fn (by decide)]; exact fm15_7
  have fm16_8 : m16 8 = F8 := by rw [em16, zCp_fn (by decide)]; exact fm15_8
  have fm16_9 : m16 9 = F9 := by rw [em16, zCp_fn (by decide)]; exact fm15_9
  have fm16_10 : m16 10 = F10 := by rw [em16, zCp_fn (by decide)]; exact fm15_10
  have fm16_11 : m16 11 = F11 := by rw [em16, zCp_fn (by decide)]; exact fm15_11
  have fm16_12 : m16 12 = F12 := by rw [em16, zCp_fn (by decide)]; exact fm15_12
  have fm16_13 : m16 13 = F13 := by rw [em16, zCp_fn (by decide)]; exact fm15_13
  clear em16
  refine zw_7 zr_61_197 rfl ?_
  refine zw_46r (s := 12) zr_61_198 rfl rfl rfl rfl ?_
  refine zw_push zr_61_201 ?_
  refine zw_7 zr_61_202 rfl ?_
  refine zw_46r (s := 26) zr_61_203 rfl rfl rfl rfl ?_
  refine zw_push zr_61_206 ?_
  refine zw_push zr_61_207 ?_
  refine zw_114 (c1 := 26) (c2 := 12) (l1 := 160) (l2 := 160) zr_61_210 rfl rfl rfl rfl (by decide) (Nat.le_of_ble_eq_true rfl) (by omega) (by omega) ?_
  intro m17 em17
  have hIm17 : zInv m17 := by rw [em17]; exact zInv.cpS hIm16 (l2 := 160) (fun _ => rfl) rfl (by decide) (by decide) (by decide)
  have hFm17 : zFr W_61_15_1 m0 m17 := by rw [em17]; exact hFm16.cp rfl
  have km17_1_0 : m17 1 0 = g0 := by rw [em17, zCp_ne (by decide)]; exact km16_1_0
  have km17_1_1 : m17 1 1 = g1 := by rw [em17, zCp_ne (by decide)]; exact km16_1_1
  have km17_1_2 : m17 1 2 = g2 := by rw [em17, zCp_ne (by decide)]; exact km16_1_2
  have km17_1_3 : m17 1 3 = g3 := by rw [em17, zCp_ne (by decide)]; exact km16_1_3
  have km17_1_4 : m17 1 4 = g4 := by rw [em17, zCp_ne (by decide)]; exact km16_1_4
  have km17_1_5 : m17 1 5 = g5 := by rw [em17, zCp_ne (by decide)]; exact km16_1_5
  have km17_15_0 : m17 15 0 = g0 := by rw [em17, zCp_ne (by decide)]; exact km16_15_0
  have km17_15_1 : m17 15 1 = g1 := by rw [em17, zCp_ne (by decide)]; exact km16_15_1
  have km17_15_2 : m17 15 2 = g2 := by rw [em17, zCp_ne (by decide)]; exact km16_15_2
  have km17_15_3 : m17 15 3 = g3 := by rw [em17, zCp_ne (by decide)]; exact km16_15_3
  have km17_15_4 : m17 15 4 = g4 := by rw [em17, zCp_ne (by decide)]; exact km16_15_4
  have km17_15_5 : m17 15 5 = g5 := by rw [em17, zCp_ne (by decide)]; exact km16_15_5
  have fm17_16 : m17 16 = zCf F16 F2 10 := by rw [em17, zCp_fn (by decide)]; exact fm16_16
  have fm17_17 : m17 17 = zCf F17 F3 40 := by rw [em17, zCp_fn (by decide)]; exact fm16_17
  have fm17_18 : m17 18 = zCf F18 F4 40 := by rw [em17, zCp_fn (by decide)]; exact fm16_18
  have fm17_19 : m17 19 = zCf F19 F5 60 := by rw [em17, zCp_fn (by decide)]; exact fm16_19
  have fm17_20 : m17 20 = zCf F20 F6 60 := by rw [em17, zCp_fn (by decide)]; exact fm16_20
  have fm17_21 : m17 21 = zCf F21 F7 60 := by rw [em17, zCp_fn (by decide)]; exact fm16_21
  have fm17_22 : m17 22 = zCf F22 F8 60 := by rw [em17, zCp_fn (by decide)]; exact fm16_22
  have fm17_23 : m17 23 = zCf F23 F9 4 := by rw [em17, zCp_fn (by decide)]; exact fm16_23
  have fm17_24 : m17 24 = zCf F24 F10 4 := by rw [em17, zCp_fn (by decide)]; exact fm16_24
  have fm17_25 : m17 25 = zCf F25 F11 200 := by rw [em17, zCp_fn (by decide)]; exact fm16_25
  have fm17_26 : m17 26 = zCf F26 F12 160 := by rw [em17]; exact (zCp_ff (m := m16) (c1 := 26) (c2 := 12) (n := 160) rfl rfl).trans (by rw [fm16_26, fm16_12])
  have fm17_27 : m17 27 = F27 := by rw [em17, zCp_fn (by decide)]; exact fm16_27
  have fm17_2 : m17 2 = F2 := by rw [em17, zCp_fn (by decide)]; exact fm16_2
  have fm17_3 : m17 3 = F3 := by rw [em17, zCp_fn (by decide)]; exact fm16_3
  have fm17_4 : m17 4 = F4 := by rw [em17, zCp_fn (by decide)]; exact fm16_4
  have fm17_5 : m17 5 = F5 := by rw [em17, zCp_fn (by decide)]; exact fm16_5
  have fm17_6 : m17 6 = F6 := by rw [em17, zCp_fn (by decide)]; exact fm16_6
  have fm17_7 : m17 7 = F7 := by rw [em17, zCp_fn (by decide)]; exact fm16_7
  have fm17_8 : m17 8 = F8 := by rw [em17, zCp_fn (by decide)]; exact fm16_8
  have fm17_9 : m17 9 = F9 := by rw [em17, zCp_fn (by decide)]; exact fm16_9
  have fm17_10 : m17 10 = F10 := by rw [em17, zCp_fn (by decide)]; exact fm16_10
  have fm17_11 : m17 11 = F11 := by rw [em17, zCp_fn (by decide)]; exact fm16_11
  have fm17_12 : m17 12 = F12 := by rw [em17, zCp_fn (by decide)]; exact fm16_12
  have fm17_13 : m17 13 = F13 := by rw [em17, zCp_fn (by decide)]; exact fm16_13
  clear em17
  refine zw_7 zr_61_213 rfl ?_
  refine zw_46r (s := 13) zr_61_214 rfl rfl rfl rfl ?_
  refine zw_push zr_61_217 ?_
  refine zw_7 zr_61_218 rfl ?_
  refine zw_46r (s := 27) zr_61_219 rfl rfl rfl rfl ?_
  refine zw_push zr_61_222 ?_
  refine zw_push zr_61_223 ?_
  refine zw_114 (c1 := 27) (c2 := 13) (l1 := 4) (l2 := 4) zr_61_224 rfl rfl rfl rfl (by decide) (Nat.le_of_ble_eq_true rfl) (by omega) (by omega) ?_
  intro m18 em18
  have hIm18 : zInv m18 := by rw [em18]; exact zInv.cpS hIm17 (l2 := 4) (fun _ => rfl) rfl (by decide) (by decide) (by decide)
  have hFm18 : zFr W_61_15_1 m0 m18 := by rw [em18]; exact hFm17.cp rfl
  have km18_1_0 : m18 1 0 = g0 := by rw [em18, zCp_ne (by decide)]; exact km17_1_0
  have km18_1_1 : m18 1 1 = g1 := by rw [em18, zCp_ne (by decide)]; exact km17_1_1
  have km18_1_2 : m18 1 2 = g2 := by rw [em18, zCp_ne (by decide)]; exact km17_1_2
  have km18_1_3 : m18 1 3 = g3 := by rw [em18, zCp_ne (by decide)]; exact km17_1_3
  have km18_1_4 : m18 1 4 = g4 := by rw [em18, zCp_ne (by decide)]; exact km17_1_4
  have km18_1_5 : m18 1 5 = g5 := by rw [em18, zCp_ne (by decide)]; exact km17_1_5
  have km18_15_0 : m18 15 0 = g0 := by rw [em18, zCp_ne (by decide)]; exact km17_15_0
  have km18_15_1 : m18 15 1 = g1 := by rw [em18, zCp_ne (by decide)]; exact km17_15_1
  have km18_15_2 : m18 15 2 = g2 := by rw [em18, zCp_ne (by decide)]; exact km17_15_2
  have km18_15_3 : m18 15 3 = g3 := by rw [em18, zCp_ne (by decide)]; exact km17_15_3
  have km18_15_4 : m18 15 4 = g4 := by rw [em18, zCp_ne (by decide)]; exact km17_15_4
  have km18_15_5 : m18 15 5 = g5 := by rw [em18, zCp_ne (by decide)]; exact km17_15_5
  have fm18_16 : m18 16 = zCf F16 F2 10 := by rw [em18, zCp_fn (by decide)]; exact fm17_16
  have fm18_17 : m18 17 = zCf F17 F3 40 := by rw [em18, zCp_fn (by decide)]; exact fm17_17
  have fm18_18 : m18 18 = zCf F18 F4 40 := by rw [em18, zCp_fn (by decide)]; exact fm17_18
  have fm18_19 : m18 19 = zCf F19 F5 60 := by rw [em18, zCp_fn (by decide)]; exact fm17_19
  have fm18_20 : m18 20 = zCf F20 F6 60 := by rw [em18, zCp_fn (by decide)]; exact fm17_20
  have fm18_21 : m18 21 = zCf F21 F7 60 := by rw [em18, zCp_fn (by decide)]; exact fm17_21
  have fm18_22 : m18 22 = zCf F22 F8 60 := by rw [em18, zCp_fn (by decide)]; exact fm17_22
  have fm18_23 : m18 23 = zCf F23 F9 4 := by rw [em18, zCp_fn (by decide)]; exact fm17_23
  have fm18_24 : m18 24 = zCf F24 F10 4 := by rw [em18, zCp_fn (by decide)]; exact fm17_24
  have fm18_25 : m18 25 = zCf F25 F11 200 := by rw [em18, zCp_fn (by decide)]; exact fm17_25
  have fm18_26 : m18 26 = zCf F26 F12 160 := by rw [em18, zCp_fn (by decide)]; exact fm17_26
  have fm18_27 : m18 27 = zCf F27 F13 4 := by rw [em18]; exact (zCp_ff (m := m17) (c1 := 27) (c2 := 13) (n := 4) rfl rfl).trans (by rw [fm17_27, fm17_13])
  have fm18_2 : m18 2 = F2 := by rw [em18, zCp_fn (by decide)]; exact fm17_2
  have fm18_3 : m18 3 = F3 := by rw [em18, zCp_fn (by decide)]; exact fm17_3
  have fm18_4 : m18 4 = F4 := by rw [em18, zCp_fn (by decide)]; exact fm17_4
  have fm18_5 : m18 5 = F5 := by rw [em18, zCp_fn (by decide)]; exact fm17_5
  have fm18_6 : m18 6 = F6 := by rw [em18, zCp_fn (by decide)]; exact fm17_6
  have fm18_7 : m18 7 = F7 := by rw [em18, zCp_fn (by decide)]; exact fm17_7
  have fm18_8 : m18 8 = F8 := by rw [em18, zCp_fn (by decide)]; exact fm17_8
  have fm18_9 : m18 9 = F9 := by rw [em18, zCp_fn (by decide)]; exact fm17_9
  have fm18_10 : m18 10 = F10 := by rw [em18, zCp_fn (by decide)]; exact fm17_10
  have fm18_11 : m18 11 = F11 := by rw [em18, zCp_fn (by decide)]; exact fm17_11
  have fm18_12 : m18 12 = F12 := by rw [em18, zCp_fn (by decide)]; exact fm17_12
  have fm18_13 : m18 13 = F13 := by rw [em18, zCp_fn (by decide)]; exact fm17_13
  clear em18
  refine zw_R zr_61_227 (by decide) zm_61 (v := (9, 0)) rfl ?_
  rw [← hQ]; exact ⟨rfl, hIm18, hFm18, ⟨(km18_15_0.trans hg0.symm), (km18_15_1.trans hg1.symm), (km18_15_2.trans hg2.symm), (km18_15_3.trans hg3.symm), (km18_15_4.trans hg4.symm), (km18_15_5.trans hg5.symm), fun k hk => by rw [fm18_16, hG2]; exact zCf_lt hk, fun k hk => by rw [fm18_17, hG3]; exact zCf_lt hk, fun k hk => by rw [fm18_18, hG4]; exact zCf_lt hk, fun k hk => by rw [fm18_19, hG5]; exact zCf_lt hk, fun k hk => by rw [fm18_20, hG6]; exact zCf_lt hk, fun k hk => by rw [fm18_21, hG7]; exact zCf_lt hk, fun k hk => by rw [fm18_22, hG8]; exact zCf_lt hk, fun k hk => by rw [fm18_23, hG9]; exact zCf_lt hk, fun k hk => by rw [fm18_24, hG10]; exact zCf_lt hk, fun k hk => by rw [fm18_25, hG11]; exact zCf_lt hk, fun k hk => by rw [fm18_26, hG12]; exact zCf_lt hk, fun k hk => by rw [fm18_27, hG13]; exact zCf_lt hk⟩⟩
