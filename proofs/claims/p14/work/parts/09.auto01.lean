abbrev W_146 : List (Nat × Nat) := [(70, 1000)]
set_option maxHeartbeats 8000000 in
theorem th_146 {E : zE} {d : Nat} {m0 : zM} {a0 : Int} {a1 : Int} {a2 : Int} {a3 : Int} {a4 : Int} {g0 : Int} {g1 : Int} {F70 : Nat → Int} (hd : 3 ≤ d) (hI0 : zInv m0) (hg0 : m0 70 822 = g0) (hg1 : m0 70 823 = g1) (hG70 : m0 70 = F70) (ha0 : (-2147483648) ≤ a0 ∧ a0 ≤ 2147483647) (ha1 : (-2147483648) ≤ a1 ∧ a1 ≤ 2147483647) (ha2 : (-2147483648) ≤ a2 ∧ a2 ≤ 2147483647) (ha3 : (-2147483648) ≤ a3 ∧ a3 ≤ 2147483647) (ha4 : 0 ≤ a4 ∧ a4 ≤ 1) : zC E d 146 [(2, 69), (0, a0), (0, a1), (0, a2), (0, a3), (0, a4)] m0 (fun v m' => ∃ r : Int, v = (0, r) ∧ (-4) ≤ r ∧ r ≤ 59 ∧ zInv m' ∧ zFr W_146 m0 m' ∧ ((r = -2 ∧ (a0 < 0 ∨ 99 < a0 ∨ a1 < 0 ∨ g0 ≤ a1 ∨ a2 < 0 ∨ g0 ≤ a2 ∨ a1 = a2 ∨ a3 < 0 ∨ 2 < a3 ∨ a0 < zlr F70 g1)) ∨ ((0 ≤ a0 ∧ a0 ≤ 99 ∧ 0 ≤ a1 ∧ a1 < g0 ∧ 0 ≤ a2 ∧ a2 < g0 ∧ a1 ≠ a2 ∧ 0 ≤ a3 ∧ a3 ≤ 2 ∧ zlr F70 g1 ≤ a0) ∧ ((r = -4 ∧ g1 = 60) ∨ (0 ≤ g1 ∧ g1 < 60 ∧ r = g1)))) ∧ (m' 70 = if 0 ≤ r then zPt (zPt (zPt (zPt (zPt (zPt (zPt (F70) (90 + 6 * g1 + 0).toNat a0) (90 + 6 * g1 + 1).toNat a1) (90 + 6 * g1 + 2).toNat a2) (90 + 6 * g1 + 3).toNat a3) (90 + 6 * g1 + 4).toNat a4) (90 + 6 * g1 + 5).toNat 0) 823 (g1 + 1) else F70)) := by
  have hF0 : zFr W_146 m0 m0 := zFr.rfl
  have bg0 : 0 ≤ m0 70 822 ∧ m0 70 822 ≤ 10 := ib_70_players hI0 (by omega)
  rw [hg0] at bg0
  have bg1 : 0 ≤ m0 70 823 ∧ m0 70 823 ≤ 60 := ib_70_meetings hI0 (by omega)
  rw [hg1] at bg1
  generalize hQ : (fun (v : zV) (m' : zM) => ∃ r : Int, v = (0, r) ∧ (-4) ≤ r ∧ r ≤ 59 ∧ zInv m' ∧ zFr W_146 m0 m' ∧ ((r = -2 ∧ (a0 < 0 ∨ 99 < a0 ∨ a1 < 0 ∨ g0 ≤ a1 ∨ a2 < 0 ∨ g0 ≤ a2 ∨ a1 = a2 ∨ a3 < 0 ∨ 2 < a3 ∨ a0 < zlr F70 g1)) ∨ ((0 ≤ a0 ∧ a0 ≤ 99 ∧ 0 ≤ a1 ∧ a1 < g0 ∧ 0 ≤ a2 ∧ a2 < g0 ∧ a1 ≠ a2 ∧ 0 ≤ a3 ∧ a3 ≤ 2 ∧ zlr F70 g1 ≤ a0) ∧ ((r = -4 ∧ g1 = 60) ∨ (0 ≤ g1 ∧ g1 < 60 ∧ r = g1)))) ∧ (m' 70 = if 0 ≤ r then zPt (zPt (zPt (zPt (zPt (zPt (zPt (F70) (90 + 6 * g1 + 0).toNat a0) (90 + 6 * g1 + 1).toNat a1) (90 + 6 * g1 + 2).toNat a2) (90 + 6 * g1 + 3).toNat a3) (90 + 6 * g1 + 4).toNat a4) (90 + 6 * g1 + 5).toNat 0) 823 (g1 + 1) else F70)) = Q
  show zW E d 146 0 [(2, 69), (0, a0), (0, a1), (0, a2), (0, a3), (0, a4), (9, 0), (9, 0)] [] m0 Q
  have z1 := zlr_c F70 g1
  refine zw_7 zr_146_0 rfl ?_
  refine zw_C zr_146_1 (Or.inl rfl) zm_142 rfl rfl ⟨Nat.le_of_ble_eq_true rfl, Nat.le_of_ble_eq_true rfl, Nat.le_of_ble_eq_true rfl, rfl, by decide⟩ (by omega) (P := (fun v m' => zW E (d) 146 4 [(2, 69), (0, a0), (0, a1), (0, a2), (0, a3), (0, a4), (9, 0), (9, 0)] (if v.1 = 9 then [] else v :: []) m' Q)) ?_ (fun _ _ h => h)
  generalize hQ1 : (fun v m' => zW E (d) 146 4 [(2, 69), (0, a0), (0, a1), (0, a2), (0, a3), (0, a4), (9, 0), (9, 0)] (if v.1 = 9 then [] else v :: []) m' Q) = Q1
  show zW E (d - 1) 142 0 [(2, 69)] [] m0 Q1
  refine zw_7 zr_142_0 rfl ?_
  refine zw_46r (s := 70) zr_142_1 rfl rfl rfl rfl ?_
  refine zw_push zr_142_4 ?_
  refine zw_48k (c := 70) (len := 826) zr_142_7 rfl rfl (by omega) (by omega) (show (823 : Int).toNat = 823 by omega) hg1 ?_
  refine zw_R zr_142_8 (by decide) zm_142 (v := (0, g1)) rfl ?_
  rw [← hQ1]
  show zW E (d) 146 4 [(2, 69), (0, a0), (0, a1), (0, a2), (0, a3), (0, a4), (9, 0), (9, 0)] [(0, g1)] m0 Q
  refine zw_40_4 zr_146_4 ?_ ?_
  · intro h2
    refine zw_7 zr_146_11 rfl ?_
    refine zw_7 zr_146_12 rfl ?_
    refine zw_C zr_146_13 (Or.inl rfl) zm_142 rfl rfl ⟨Nat.le_of_ble_eq_true rfl, Nat.le_of_ble_eq_true rfl, Nat.le_of_ble_eq_true rfl, rfl, by decide⟩ (by omega) (P := (fun v m' => zW E (d) 146 16 [(2, 69), (0, a0), (0, a1), (0, a2), (0, a3), (0, a4), (9, 0), (9, 0)] (if v.1 = 9 then [(2, 69)] else v :: [(2, 69)]) m' Q)) ?_ (fun _ _ h => h)
    generalize hQ1 : (fun v m' => zW E (d) 146 16 [(2, 69), (0, a0), (0, a1), (0, a2), (0, a3), (0, a4), (9, 0), (9, 0)] (if v.1 = 9 then [(2, 69)] else v :: [(2, 69)]) m' Q) = Q1
    show zW E (d - 1) 142 0 [(2, 69)] [] m0 Q1
    refine zw_7 zr_142_0 rfl ?_
    refine zw_46r (s := 70) zr_142_1 rfl rfl rfl rfl ?_
    refine zw_push zr_142_4 ?_
    refine zw_48k (c := 70) (len := 826) zr_142_7 rfl rfl (by omega) (by omega) (show (823 : Int).toNat = 823 by omega) hg1 ?_
    refine zw_R zr_142_8 (by decide) zm_142 (v := (0, g1)) rfl ?_
    rw [← hQ1]
    show zW E (d) 146 16 [(2, 69), (0, a0), (0, a1), (0, a2), (0, a3), (0, a4), (9, 0), (9, 0)] [(0, g1), (2, 69)] m0 Q
    refine zw_push zr_146_16 ?_
    refine zw_17 zr_146_17 (by omega) ?_
    refine zw_push zr_146_18 ?_
    refine zw_C zr_146_19 (Or.inl rfl) zm_144 rfl rfl ⟨Nat.le_of_ble_eq_true rfl, Nat.le_of_ble_eq_true rfl, Nat.le_of_ble_eq_true rfl, rfl, by decide⟩ (by omega) (P := (fun v m' => zW E (d) 146 22 [(2, 69), (0, a0), (0, a1), (0, a2), (0, a3), (0, a4), (9, 0), (9, 0)] (if v.1 = 9 then [] else v :: []) m' Q)) ?_ (fun _ _ h => h)
    generalize hQ1 : (fun v m' => zW E (d) 146 22 [(2, 69), (0, a0), (0, a1), (0, a2), (0, a3), (0, a4), (9, 0), (9, 0)] (if v.1 = 9 then [] else v :: []) m' Q) = Q1
    show zW E (d - 1) 144 0 [(2, 69), (0, (g1 - 1)), (0, 0)] [] m0 Q1
    refine zw_7 zr_144_0 rfl ?_
    refine zw_46r (s := 70) zr_144_1 rfl rfl rfl rfl ?_
    refine zw_push zr_144_4 ?_
    refine zw_push zr_144_6 ?_
    refine zw_3 zr_144_8 rfl ?_
    refine zw_18 zr_144_9 (by omega) ?_
    refine zw_16 zr_144_10 (by omega) ?_
    refine zw_3 zr_144_11 rfl ?_
    refine zw_16 zr_144_12 (by omega) ?_
    refine zw_48 (c := 70) (len := 826) zr_144_13 rfl rfl (by omega) (by omega) ?_
    intro x3 ex3
    have bx3 := ib_70_m0 hI0 (k := (((90 + (6 * (g1 - 1))) + 0)).toNat) (by omega)
    rw [← ex3] at bx3
    have qx3 : x3 = F70 (((90 + (6 * (g1 - 1))) + 0)).toNat := by rw [← hG70]; exact ex3
    clear ex3
    refine zw_R zr_144_14 (by decide) zm_144 (v := (0, x3)) rfl ?_
    rw [← hQ1]
    show zW E (d) 146 22 [(2, 69), (0, a0), (0, a1), (0, a2), (0, a3), (0, a4), (9, 0), (9, 0)] [(0, x3)] m0 Q
    refine zw_10 (L' := [(2, 69), (0, a0), (0, a1), (0, a2), (0, a3), (0, a4), (0, x3), (9, 0)]) zr_146_22 (Nat.le_of_ble_eq_true rfl) rfl ?_
    refine zw_3 zr_146_24 rfl ?_
    refine zw_36 zr_146_25 ?_
    refine zw_4 zr_146_26 rfl ?_
    refine zw_36 zr_146_28 ?_
    refine zw_push zr_146_29 ?_
    refine zw_C zr_146_32 (Or.inr rfl) zm_140 rfl rfl ⟨Nat.le_of_ble_eq_true rfl, Nat.le_of_ble_eq_true rfl, Nat.le_of_ble_eq_true rfl, rfl, by decide⟩ (by omega) (P := (fun v m' => zW E (d) 146 35 [(2, 69), (0, a0), (0, a1), (0, a2), (0, a3), (0, a4), (0, x3), (9, 0)] (if v.1 = 9 then [] else v :: []) m' Q)) ?_ (fun _ _ h => h)
    generalize hQ1 : (fun v m' => zW E (d) 146 35 [(2, 69), (0, a0), (0, a1), (0, a2), (0, a3), (0, a4), (0, x3), (9, 0)] (if v.1 = 9 then [] else v :: []) m' Q) = Q1
    show zW E (d - 1) 140 0 [(1, a0), (9, 0), (1, x3), (9, 0), (1, 99), (9, 0)] [] m0 Q1
    refine zw_5 zr_140_0 rfl ?_
    refine zw_5 zr_140_1 rfl ?_
    refine zw_39_0 zr_140_2 zr_140_3 ?_ ?_
    · intro h4
      refine zw_push zr_140_17 ?_
      refine zw_R zr_140_18 (by decide) zm_140 (v := (0, 0)) (zRetB (by omega)) ?_
      rw [← hQ1]
      show zW E (d) 146 35 [(2, 69), (0, a0), (0, a1), (0, a2), (0, a3), (0, a4), (0, x3), (9, 0)] [(0, 0)] m0 Q
      refine zw_40_1 zr_146_35 ?_ ?_
      · intro h5
        refine zw_push zr_146_72 ?_
        refine zw_R zr_146_74 (by decide) zm_146 (v := (0, (-2))) rfl ?_
        rw [← hQ]; exact ⟨_, rfl, by omega, by omega, hI0, hF0, by omega, by rw [hG70]; first | exact (if_neg (by omega)).symm | exact (if_pos (by omega)).symm | (rw [show a4 = 1 by omega]; first | exact (if_neg (by omega)).symm | exact (if_pos (by omega)).symm) | (rw [show a4 = 0 by omega]; first | exact (if_neg (by omega)).symm | exact (if_pos (by omega)).symm)⟩
      · intro h8; omega
    · intro h9
      refine zw_5 zr_140_6 rfl ?_
      refine zw_6 zr_140_7 rfl ?_
      refine zw_39_2 zr_140_9 zr_140_10 ?_ ?_
      · intro h10
        refine zw_push zr_140_17 ?_
        refine zw_R zr_140_18 (by decide) zm_140 (v := (0, 0)) (zRetB (by omega)) ?_
        rw [← hQ1]
        show zW E (d) 146 35 [(2, 69), (0, a0), (0, a1), (0, a2), (0, a3), (0, a4), (0, x3), (9, 0)] [(0, 0)] m0 Q
        refine zw_40_1 zr_146_35 ?_ ?_
        · intro h11
          refine zw_push zr_146_72 ?_
          refine zw_R zr_146_74 (by decide) zm_146 (v := (0, (-2))) rfl ?_
          rw [← hQ]; exact ⟨_, rfl, by omega, by omega, hI0, hF0, by omega, by rw [hG70]; first | exact (if_neg (by omega)).symm | exact (if_pos (by omega)).symm | (rw [show a4 = 1 by omega]; first | exact (if_neg (by omega)).symm | exact (if_pos (by omega)).symm) | (rw [show a4 = 0 by omega]; first | exact (if_neg (by omega)).symm | exact (if_pos (by omega)).symm)⟩
        · intro h14; omega
      · intro h15
        refine zw_push zr_140_13 ?_
        refine zw_42 zr_140_14 ?_
        refine zw_R zr_140_18 (by decide) zm_140 (v := (0, 1)) (zRetB (by omega)) ?_
        rw [← hQ1]
        show zW E (d) 146 35 [(2, 69), (0, a0), (0, a1), (0, a2), (0, a3), (0, a4), (0, x3), (9, 0)] [(0, 1)] m0 Q
        refine zw_40_1 zr_146_35 ?_ ?_
        · intro h16; omega
        · intro h17
          refine zw_7 zr_146_38 rfl ?_
          refine zw_3 zr_146_39 rfl ?_
          refine zw_C zr_146_40 (Or.inl rfl) zm_143 rfl rfl ⟨Nat.le_of_ble_eq_true rfl, Nat.le_of_ble_eq_true rfl, Nat.le_of_ble_eq_true rfl, rfl, by decide⟩ (by omega) (P := (fun v m' => zW E (d) 146 43 [(2, 69), (0, a0), (0, a1), (0, a2), (0, a3), (0, a4), (0, x3), (9, 0)] (if v.1 = 9 then [] else v :: []) m' Q)) ?_ (fun _ _ h => h)
          generalize hQ1 : (fun v m' => zW E (d) 146 43 [(2, 69), (0, a0), (0, a1), (0, a2), (0, a3), (0, a4), (0, x3), (9, 0)] (if v.1 = 9 then [] else v :: []) m' Q) = Q1
          show zW E (d - 1) 143 0 [(2, 69), (0, a1)] [] m0 Q1
          refine zw_3 zr_143_0 rfl ?_
          refine zw_36 zr_143_1 ?_
          refine zw_push zr_143_2 ?_
          refine zw_7 zr_143_3 rfl ?_
          refine zw_C zr_143_4 (Or.inl rfl) zm_141 rfl rfl ⟨Nat.le_of_ble_eq_true rfl, Nat.le_of_ble_eq_true rfl, Nat.le_of_ble_eq_true rfl, rfl, by decide⟩ (by omega) (P := (fun v m' => zW E (d - 1) 143 7 [(2, 69), (0, a1)] (if v.1 = 9 then [(1, 0), (1, a1)] else v :: [(1, 0), (1, a1)]) m' Q1)) ?_ (fun _ _ h => h)
          generalize hQ2 : (fun v m' => zW E (d - 1) 143 7 [(2, 69), (0, a1)] (if v.1 = 9 then [(1, 0), (1, a1)] else v :: [(1, 0), (1, a1)]) m' Q1) = Q2
          show zW E (d - 1 - 1) 141 0 [(2, 69)] [] m0 Q2
          refine zw_7 zr_141_0 rfl ?_
          refine zw_46r (s := 70) zr_141_1 rfl rfl rfl rfl ?_
          refine zw_push zr_141_4 ?_
          refine zw_48k (c := 70) (len := 826) zr_141_7 rfl rfl (by omega) (by omega) (show (822 : Int).toNat = 822 by omega) hg0 ?_
          refine zw_R zr_141_8 (by decide) zm_141 (v := (0, g0)) rfl ?_
          rw [← hQ2]
          show zW E (d - 1) 143 7 [(2, 69), (0, a1)] [(0, g0), (1, 0), (1, a1)] m0 Q1
          refine zw_push zr_143_7 ?_
          refine zw_17 zr_143_8 (by omega) ?_
          refine zw_36 zr_143_9 ?_
          refine zw_C zr_143_10 (Or.inr rfl) zm_140 rfl rfl ⟨Nat.le_of_ble_eq_true rfl, Nat.le_of_ble_eq_true rfl, Nat.le_of_ble_eq_true rfl, rfl, by decide⟩ (by omega) (P := (fun v m' => zW E (d - 1) 143 13 [(2, 69), (0, a1)] (if v.1 = 9 then [] else v :: []) m' Q1)) ?_ (fun _ _ h => h)
          generalize hQ2 : (fun v m' => zW E (d - 1) 143 13 [(2, 69), (0, a1)] (if v.1 = 9 then [] else v :: []) m' Q1) = Q2
          show zW E (d - 1 - 1) 140 0 [(1, a1), (9, 0), (1, 0), (9, 0), (1, (g0 - 1)), (9, 0)] [] m0 Q2
          refine zw_5 zr_140_0 rfl ?_
          refine zw_5 zr_140_1 rfl ?_
          refine zw_39_0 zr_140_2 zr_140_3 ?_ ?_
          · intro h18
            refine zw_push zr_140_17 ?_
            refine zw_R zr_140_18 (by decide) zm_140 (v := (0, 0)) (zRetB (by omega)) ?_
            rw [← hQ2]
            show zW E (d - 1) 143 13 [(2, 69), (0, a1)] [(0, 0)] m0 Q1
            refine zw_R zr_143_13 (by decide) zm_143 (v := (0, 0)) (zRetB (by omega)) ?_
            rw [← hQ1]
            show zW E (d) 146 43 [(2, 69), (0, a0), (0, a1), (0, a2), (0, a3), (0, a4), (0, x3), (9, 0)] [(0, 0)] m0 Q
            refine zw_40_1 zr_146_43 ?_ ?_
            · intro h19
              refine zw_push zr_146_72 ?_
              refine zw_R zr_146_74 (by decide) zm_146 (v := (0, (-2))) rfl ?_
              rw [← hQ]; exact ⟨_, rfl, by omega, by omega, hI0, hF0, by omega, by rw [hG70]; first | exact (if_neg (by omega)).symm | exact (if_pos (by omega)).symm | (rw [show a4 = 1 by omega]; first | exact (if_neg (by omega)).symm | exact (if_pos (by omega)).symm) | (rw [show a4 = 0 by omega]; first | exact (if_neg (by omega)).symm | exact (if_pos (by omega)).symm)⟩
            · intro h22; omega
          · intro h23
            refine zw_5 zr_140_6 rfl ?_
            refine zw_6 zr_140_7 rfl ?_
            refine zw_39_2 zr_140_9 zr_140_10 ?_ ?_
            · intro h24
              refine zw_push zr_140_17 ?_
              refine zw_R zr_140_18 (by decide) zm_140 (v := (0, 0)) (zRetB (by omega)) ?_
              rw [← hQ2]
              show zW E (d - 1) 143 13 [(2, 69), (0, a1)] [(0, 0)] m0 Q1
              refine zw_R zr_143_13 (by decide) zm_143 (v := (0, 0)) (zRetB (by omega)) ?_
              rw [← hQ1]
              show zW E (d) 146 43 [(2, 69), (0, a0), (0, a1), (0, a2), (0, a3), (0, a4), (0, x3), (9, 0)] [(0, 0)] m0 Q
              refine zw_40_1 zr_146_43 ?_ ?_
              · intro h25
                refine zw_push zr_146_72 ?_
                refine zw_R zr_146_74 (by decide) zm_146 (v := (0, (-2))) rfl ?_
                rw [← hQ]; exact ⟨_, rfl, by omega, by omega, hI0, hF0, by omega, by rw [hG70]; first | exact (if_neg (by omega)).symm | exact (if_pos (by omega)).symm | (rw [show a4 = 1 by omega]; first | exact (if_neg (by omega)).symm | exact (if_pos (by omega)).symm) | (rw [show a4 = 0 by omega]; first | exact (if_neg (by omega)).symm | exact (if_pos (by omega)).symm)⟩
              · intro h28; omega
            · intro h29
              refine zw_push zr_140_13 ?_
              refine zw_42 zr_140_14 ?_
              refine zw_R zr_140_18 (by decide) zm_140 (v := (0, 1)) (zRetB (by omega)) ?_
              rw [← hQ2]
              show zW E (d - 1) 143 13 [(2, 69), (0, a1)] [(0, 1)] m0 Q1
              refine zw_R zr_143_13 (by decide) zm_143 (v := (0, 1)) (zRetB (by omega)) ?_
              rw [← hQ1]
              show zW E (d) 146 43 [(2, 69), (0, a0), (0, a1), (0, a2), (0, a3), (0, a4), (0, x3), (9, 0)] [(0, 1)] m0 Q
              refine zw_40_1 zr_146_43 ?_ ?_
              · intro h30; omega
              · intro h31
                refine zw_7 zr_146_46 rfl ?_
                refine zw_3 zr_146_47 rfl ?_
                refine zw_C zr_146_48 (Or.inl rfl) zm_143 rfl rfl ⟨Nat.le_of_ble_eq_true rfl, Nat.le_of_ble_eq_true rfl, Nat.le_of_ble_eq_true rfl, rfl, by decide⟩ (by omega) (P := (fun v m' => zW E (d) 146 51 [(2, 69), (0, a0), (0, a1), (0, a2), (0, a3), (0, a4), (0, x3), (9, 0)] (if v.1 = 9 then [] else v :: []) m' Q)) ?_ (fun _ _ h => h)
                generalize hQ1 : (fun v m' => zW E (d) 146 51 [(2, 69), (0, a0), (0, a1), (0, a2), (0, a3), (0, a4), (0, x3), (9, 0)] (if v.1 = 9 then [] else v :: []) m' Q) = Q1
                show zW E (d - 1) 143 0 [(2, 69), (0, a2)] [] m0 Q1
                refine zw_3 zr_143_0 rfl ?_
                refine zw_36 zr_143_1 ?_
                refine zw_push zr_143_2 ?_
                refine zw_7 zr_143_3 rfl ?_
                refine zw_C zr_143_4 (Or.inl rfl) zm_141 rfl rfl ⟨Nat.le_of_ble_eq_true rfl, Nat.le_of_ble_eq_true rfl, Nat.le_of_ble_eq_true rfl, rfl, by decide⟩ (by omega) (P := (fun v m' => zW E (d - 1) 143 7 [(2, 69), (0, a2)] (if v.1 = 9 then [(1, 0), (1, a2)] else v :: [(1, 0), (1, a2)]) m' Q1)) ?_ (fun _ _ h => h)
                generalize hQ2 : (fun v m' => zW E (d - 1) 143 7 [(2, 69), (0, a2)] (if v.1 = 9 then [(1, 0), (1, a2)] else v :: [(1, 0), (1, a2)]) m' Q1) = Q2
                show zW E (d - 1 - 1) 141 0 [(2, 69)] [] m0 Q2
                refine zw_7 zr_141_0 rfl ?_
                refine zw_46r (s := 70) zr_141_1 rfl rfl rfl rfl ?_
                refine zw_push zr_141_4 ?_
                refine zw_48k (c := 70) (len := 826) zr_141_7 rfl rfl (by omega) (by omega) (show (822 : Int).toNat = 822 by omega) hg0 ?_
                refine zw_R zr_141_8 (by decide) zm_141 (v := (0, g0)) rfl ?_
                rw [← hQ2]
                show zW E (d - 1) 143 7 [(2, 69), (0, a2)] [(0, g0), (1, 0), (1, a2)] m0 Q1
                refine zw_push zr_143_7 ?_
                refine zw_17 zr_143_8 (by omega) ?_
                refine zw_36 zr_143_9 ?_
                refine zw_C zr_143_10 (Or.inr rfl) zm_140 rfl rfl ⟨Nat.le_of_ble_eq_true rfl, Nat.le_of_ble_eq_true rfl, Nat.le_of_ble_eq_true rfl, rfl, by decide⟩ (by omega) (P := (fun v m' => zW E (d - 1) 143 13 [(2, 69), (0, a2)] (if v.1 = 9 then [] else v :: []) m' Q1)) ?_ (fun _ _ h => h)
                generalize hQ2 : (fun v m' => zW E (d - 1) 143 13 [(2, 69), (0, a2)] (if v.1 = 9 then [] else v :: []) m' Q1) = Q2
                show zW E (d - 1 - 1) 140 0 [(1, a2), (9, 0), (1, 0), (9, 0), (1, (g0 - 1)), (9, 0)] [] m0 Q2
                refine zw_5 zr_140_0 rfl ?_
                refine zw_5 zr_140_1 rfl ?_
                refine zw_39_0 zr_140_2 zr_140_3 ?_ ?_
                · intro h32
                  refine zw_push zr_140_17 ?_
                  refine zw_R zr_140_18 (by decide) zm_140 (v := (0, 0)) (zRetB (by omega)) ?_
                  rw [← hQ2]
                  show zW E (d - 1) 143 13 [(2, 69), (0, a2)] [(0, 0)] m0 Q1
                  refine zw_R zr_143_13 (by decide) zm_143 (v := (0, 0)) (zRetB (by omega)) ?_
                  rw [← hQ1]
                  show zW E (d) 146 51 [(2, 69), (0, a0), (0, a1), (0, a2), (0, a3), (0, a4), (0, x3), (9, 0)] [(0, 0)] m0 Q
                  refine zw_40_1 zr_146_51 ?_ ?_
                  · intro h33
                    refine zw_push zr_146_72 ?_
                    refine zw_R zr_146_74 (by decide) zm_146 (v := (0, (-2))) rfl ?_
                    rw [← hQ]; exact ⟨_, rfl, by omega, by omega, hI0, hF0, by omega, by rw [hG70]; first | exact (if_neg (by omega)).symm | exact (if_pos (by omega)).symm | (rw [show a4 = 1 by omega]; first | exact (if_neg (by omega)).symm | exact (if_pos (by omega)).symm) | (rw [show a4 = 0 by omega]; first | exact (if_neg (by omega)).symm | exact (if_pos (by omega)).symm)⟩
                  · intro h36; omega
                · intro h37
                  refine zw_5 zr_140_6 rfl ?_
                  refine zw_6 zr_140_7 rfl ?_
                  refine zw_39_2 zr_140_9 zr_140_10 ?_ ?_
                  · intro h38
                    refine zw_push zr_140_17 ?_
                    refine zw_R zr_140_18 (by decide) zm_140 (v := (0, 0)) (zRetB (by omega)) ?_
                    rw [← hQ2]
                    show zW E (d - 1) 143 13 [(2, 69), (0, a2)] [(0, 0)] m0 Q1
                    refine zw_R zr_143_13 (by decide) zm_143 (v := (0, 0)) (zRetB (by omega)) ?_
                    rw [← hQ1]
                    show zW E (d) 146 51 [(2, 69), (0, a0), (0, a1), (0, a2), (0, a3), (0, a4), (0, x3), (9, 0)] [(0, 0)] m0 Q
                    refine zw_40_1 zr_146_51 ?_ ?_
                    · intro h39
                      refine zw_push zr_146_72 ?_
                      refine zw_R zr_146_74 (by decide) zm_146 (v := (0, (-2))) rfl ?_
                      rw [← hQ]; exact ⟨_, rfl, by omega, by omega, hI0, hF0, by omega, by rw [hG70]; first | exact (if_neg (by omega)).symm | exact (if_pos (by omega)).symm | (rw [show a4 = 1 by omega]; first | exact (if_neg (by omega)).symm | exact (if_pos (by omega)).symm) | (rw [show a4 = 0 by omega]; first | exact (if_neg (by omega)).symm | exact (if_pos (by omega)).symm)⟩
                    · intro h42; omega
                  · intro h43
                    refine zw_push zr_140_13 ?_
                    refine zw_42 zr_140_14 ?_
                    refine zw_R zr_140_18 (by decide) zm_140 (v := (0, 1)) (zRetB (by omega)) ?_
                    rw [← hQ2]
                    show zW E (d - 1) 143 13 [(2, 69), (0, a2)] [(0, 1)] m0 Q1
                    refine zw_R zr_143_13 (by decide) zm_143 (v := (0, 1)) (zRetB (by omega)) ?_
                    rw [← hQ1]
                    show zW E (d) 146 51 [(2, 69), (0, a0), (0, a1), (0, a2), (0, a3), (0, a4), (0, x3), (9, 0)] [(0, 1)] m0 Q
                    refine zw_40_1 zr_146_51 ?_ ?_
                    · intro h44; omega
                    · intro h45
                      refine zw_3 zr_146_54 rfl ?_
                      refine zw_3 zr_146_55 rfl ?_
                      refine zw_41_1 zr_146_56 ?_ ?_
                      · intro h46
                        refine zw_push zr_146_72 ?_
                        refine zw_R zr_146_74 (by decide) zm_146 (v := (0, (-2))) rfl ?_
                        rw [← hQ]; exact ⟨_, rfl, by omega, by omega, hI0, hF0, by omega, by rw [hG70]; first | exact (if_neg (by omega)).symm | exact (if_pos (by omega)).symm | (rw [show a4 = 1 by omega]; first | exact (if_neg (by omega)).symm | exact (if_pos (by omega)).symm) | (rw [show a4 = 0 by omega]; first | exact (if_neg (by omega)).symm | exact (if_pos (by omega)).symm)⟩
                      · intro h49
                        refine zw_4 zr_146_59 rfl ?_
                        refine zw_36 zr_146_61 ?_
                        refine zw_push zr_146_62 ?_
                        refine zw_push zr_146_63 ?_
                        refine zw_C zr_146_66 (Or.inr rfl) zm_140 rfl rfl ⟨Nat.le_of_ble_eq_true rfl, Nat.le_of_ble_eq_true rfl, Nat.le_of_ble_eq_true rfl, rfl, by decide⟩ (by omega) (P := (fun v m' => zW E (d) 146 69 [(2, 69), (0, a0), (0, a1), (0, a2), (0, a3), (0, a4), (0, x3), (9, 0)] (if v.1 = 9 then [] else v :: []) m' Q)) ?_ (fun _ _ h => h)
                        generalize hQ1 : (fun v m' => zW E (d) 146 69 [(2, 69), (0, a0), (0, a1), (0, a2), (0, a3), (0, a4), (0, x3), (9, 0)] (if v.1 = 9 then [] else v :: []) m' Q) = Q1
                        show zW E (d - 1) 140 0 [(1, a3), (9, 0), (1, 0), (9, 0), (1, 2), (9, 0)] [] m0 Q1
                        refine zw_5 zr_140_0 rfl ?_
                        refine zw_5 zr_140_1 rfl ?_
                        refine zw_39_0 zr_140_2 zr_140_3 ?_ ?_
                        · intro h50
                          refine zw_push zr_140_17 ?_
                          refine zw_R zr_140_18 (by decide) zm_140 (v := (0, 0)) (zRetB (by omega)) ?_
                          rw [← hQ1]
                          show zW E (d) 146 69 [(2, 69), (0, a0), (0, a1), (0, a2), (0, a3), (0, a4), (0, x3), (9, 0)] [(0, 0)] m0 Q
                          refine zw_40_4 zr_146_69 ?_ ?_
                          · intro h51; omega
                          · intro h52
                            refine zw_push zr_146_72 ?_
                            refine zw_R zr_146_74 (by decide) zm_146 (v := (0, (-2))) rfl ?_
                            rw [← hQ]; exact ⟨_, rfl, by omega, by omega, hI0, hF0, by omega, by rw [hG70]; first | exact (if_neg (by omega)).symm | exact (if_pos (by omega)).symm | (rw [show a4 = 1 by omega]; first | exact (if_neg (by omega)).symm | exact (if_pos (by omega)).symm) | (rw [show a4 = 0 by omega]; first | exact (if_neg (by omega)).symm | exact (if_pos (by omega)).symm)⟩
                        · intro h55
                          refine zw_5 zr_140_6 rfl ?_
                          refine zw_6 zr_140_7 rfl ?_
                          refine zw_39_2 zr_140_9 zr_140_10 ?_ ?_
                          · intro h56
                            refine zw_push zr_140_17 ?_
                            refine zw_R zr_140_18 (by decide) zm_140 (v := (0, 0)) (zRetB (by omega)) ?_
                            rw [← hQ1]
                            show zW E (d) 146 69 [(2, 69), (0, a0), (0, a1), (0, a2), (0, a3), (0, a4), (0, x3), (9, 0)] [(0, 0)] m0 Q
                            refine zw_40_4 zr_146_69 ?_ ?_
                            · intro h57; omega
                            · intro h58
                              refine zw_push zr_146_72 ?_
                              refine zw_R zr_146_74 (by decide) zm_146 (v := (0, (-2))) rfl ?_
                              rw [← hQ]; exact ⟨_, rfl, by omega, by omega, hI0, hF0, by omega, by rw [hG70]; first | exact (if_neg (by omega)).symm | exact (if_pos (by omega)).symm | (rw [show a4 = 1 by omega]; first | exact (if_neg (by omega)).symm | exact (if_pos (by omega)).symm) | (rw [show a4 = 0 by omega]; first | exact (if_neg (by omega)).symm | exact (if_pos (by omega)).symm)⟩
                          · intro h61
                            refine zw_push zr_140_13 ?_
                            refine zw_42 zr_140_14 ?_
                            refine zw_R zr_140_18 (by decide) zm_140 (v := (0, 1)) (zRetB (by omega)) ?_
                            rw [← hQ1]
                            show zW E (d) 146 69 [(2, 69), (0, a0), (0, a1), (0, a2), (0, a3), (0, a4), (0, x3), (9, 0)] [(0, 1)] m0 Q
                            refine zw_40_4 zr_146_69 ?_ ?_
                            · intro h62
                              refine zw_7 zr_146_75 rfl ?_
                              refine zw_C zr_146_76 (Or.inl rfl) zm_142 rfl rfl ⟨Nat.le_of_ble_eq_true rfl, Nat.le_of_ble_eq_true rfl, Nat.le_of_ble_eq_true rfl, rfl, by decide⟩ (by omega) (P := (fun v m' => zW E (d) 146 79 [(2, 69), (0, a0), (0, a1), (0, a2), (0, a3), (0, a4), (0, x3), (9, 0)] (if v.1 = 9 then [] else v :: []) m' Q)) ?_ (fun _ _ h => h)
                              generalize hQ1 : (fun v m' => zW E (d) 146 79 [(2, 69), (0, a0), (0, a1), (0, a2), (0, a3), (0, a4), (0, x3), (9, 0)] (if v.1 = 9 then [] else v :: []) m' Q) = Q1
                              show zW E (d - 1) 142 0 [(2, 69)] [] m0 Q1
                              refine zw_7 zr_142_0 rfl ?_
                              refine zw_46r (s := 70) zr_142_1 rfl rfl rfl rfl ?_
                              refine zw_push zr_142_4 ?_
                              refine zw_48k (c := 70) (len := 826) zr_142_7 rfl rfl (by omega) (by omega) (show (823 : Int).toNat = 823 by omega) hg1 ?_
                              refine zw_R zr_142_8 (by decide) zm_142 (v := (0, g1)) rfl ?_
                              rw [← hQ1]
                              show zW E (d) 146 79 [(2, 69), (0, a0), (0, a1), (0, a2), (0, a3), (0, a4), (0, x3), (9, 0)] [(0, g1)] m0 Q
                              refine zw_push zr_146_79 ?_
                              refine zw_41_4 zr_146_81 ?_ ?_
                              · intro h63
                                refine zw_push zr_146_87 ?_
                                refine zw_push zr_146_89 ?_
                                refine zw_7 zr_146_91 rfl ?_
                                refine zw_C zr_146_92 (Or.inl rfl) zm_142 rfl rfl ⟨Nat.le_of_ble_eq_true rfl, Nat.le_of_ble_eq_true rfl, Nat.le_of_ble_eq_true rfl, rfl, by decide⟩ (by omega) (P := (fun v m' => zW E (d) 146 95 [(2, 69), (0, a0), (0, a1), (0, a2), (0, a3), (0, a4), (0, x3), (9, 0)] (if v.1 = 9 then [(0, 6), (0, 90)] else v :: [(0, 6), (0, 90)]) m' Q)) ?_ (fun _ _ h => h)
                                generalize hQ1 : (fun v m' => zW E (d) 146 95 [(2, 69), (0, a0), (0, a1), (0, a2), (0, a3), (0, a4), (0, x3), (9, 0)] (if v.1 = 9 then [(0, 6), (0, 90)] else v :: [(0, 6), (0, 90)]) m' Q) = Q1
                                show zW E (d - 1) 142 0 [(2, 69)] [] m0 Q1
                                refine zw_7 zr_142_0 rfl ?_
                                refine zw_46r (s := 70) zr_142_1 rfl rfl rfl rfl ?_
                                refine zw_push zr_142_4 ?_
                                refine zw_48k (c := 70) (len := 826) zr_142_7 rfl rfl (by omega) (by omega) (show (823 : Int).toNat = 823 by omega) hg1 ?_
                                refine zw_R zr_142_8 (by decide) zm_142 (v := (0, g1)) rfl ?_
                                rw [← hQ1]
                                show zW E (d) 146 95 [(2, 69), (0, a0), (0, a1), (0, a2), (0, a3), (0, a4), (0, x3), (9, 0)] [(0, g1), (0, 6), (0, 90)] m0 Q
                                refine zw_18 zr_146_95 (by omega) ?_
                                refine zw_16 zr_146_96 (by omega) ?_
                                refine zw_10 (L' := [(2, 69), (0, a0), (0, a1), (0, a2), (0, a3), (0, a4), (0, x3), (0, (90 + (6 * g1)))]) zr_146_97 (Nat.le_of_ble_eq_true rfl) rfl ?_
                                refine zw_7 zr_146_99 rfl ?_
                                refine zw_46r (s := 70) zr_146_100 rfl rfl rfl rfl ?_
                                refine zw_4 zr_146_103 rfl ?_
                                refine zw_push zr_146_105 ?_
                                refine zw_16 zr_146_106 (by omega) ?_
                                refine zw_3 zr_146_107 rfl ?_
                                refine zw_49 (c := 70) (len := 826) zr_146_108 rfl rfl (by omega) (by omega) ?_
                                intro m64 em64
                                have hIm64 : zInv m64 := by rw [em64]; exact iu_70_m0 hI0 (by omega) (by omega)
                                have hFm64 : zFr W_146 m0 m64 := by rw [em64]; exact hF0.any rfl
                                have km64_70_822 : m64 70 822 = g0 := by rw [em64, zUp_ne (by omega)]; exact hg0
                                have km64_70_823 : m64 70 823 = g1 := by rw [em64, zUp_ne (by omega)]; exact hg1
                                have fm64_70 : m64 70 = zPt F70 ((((90 + (6 * g1)) + 0)).toNat) a0 := by rw [em64]; exact (zUp_ff (m := m0)).trans (congrArg (fun q => zPt q ((((90 + (6 * g1)) + 0)).toNat) a0) hG70)
                                clear em64
                                refine zw_7 zr_146_109 rfl ?_
                                refine zw_46r (s := 70) zr_146_110 rfl rfl rfl rfl ?_
                                refine zw_4 zr_146_113 rfl ?_
                                refine zw_push zr_146_115 ?_
                                refine zw_16 zr_146_116 (by omega) ?_
                                refine zw_3 zr_146_117 rfl ?_
                                refine zw_49 (c := 70) (len := 826) zr_146_118 rfl rfl (by omega) (by omega) ?_
                                intro m65 em65
                                have hIm65 : zInv m65 := by rw [em65]; exact iu_70_m1 hIm64 (by omega) (by omega)
                                have hFm65 : zFr W_146 m0 m65 := by rw [em65]; exact hFm64.any rfl
                                have km65_70_822 : m65 70 822 = g0 := by rw [em65, zUp_ne (by omega)]; exact km64_70_822
                                have km65_70_823 : m65 70 823 = g1 := by rw [em65, zUp_ne (by omega)]; exact km64_70_823
                                have fm65_70 : m65 70 = zPt (zPt F70 ((((90 + (6 * g1)) + 0)).toNat) a0) ((((90 + (6 * g1)) + 1)).toNat) a1 := by rw [em65]; exact (zUp_ff (m := m64)).trans (congrArg (fun q => zPt q ((((90 + (6 * g1)) + 1)).toNat) a1) fm64_70)
                                clear em65
                                refine zw_7 zr_146_119 rfl ?_
                                refine zw_46r (s := 70) zr_146_120 rfl rfl rfl rfl ?_
                                refine zw_4 zr_146_123 rfl ?_
                                refine zw_push zr_146_125 ?_
                                refine zw_16 zr_146_126 (by omega) ?_
                                refine zw_3 zr_146_127 rfl ?_
                                refine zw_49 (c := 70) (len := 826) zr_146_128 rfl rfl (by omega) (by omega) ?_
                                intro m66 em66
                                have hIm66 : zInv m66 := by rw [em66]; exact iu_70_m2 hIm65 (by omega) (by omega)
                                have hFm66 : zFr W_146 m0 m66 := by rw [em66]; exact hFm65.any rfl
                                have km66_70_822 : m66 70 822 = g0 := by rw [em66, zUp_ne (by omega)]; exact km65_70_822
                                have km66_70_823 : m66 70 823 = g1 := by rw [em66, zUp_ne (by omega)]; exact km65_70_823
                                have fm66_70 : m66 70 = zPt (zPt (zPt F70 ((((90 + (6 * g1)) + 0)).toNat) a0) ((((90 + (6 * g1)) + 1)).toNat) a1) ((((90 + (6 * g1)) + 2)).toNat) a2 := by rw [em66]; exact (zUp_ff (m := m65)).trans (congrArg (fun q => zPt q ((((90 + (6 * g1)) + 2)).toNat) a2) fm65_70)
                                clear em66
                                refine zw_7 zr_146_129 rfl ?_
                                refine zw_46r (s := 70) zr_146_130 rfl rfl rfl rfl ?_
                                refine zw_4 zr_146_133 rfl ?_
                                refine zw_push zr_146_135 ?_
                                refine zw_16 zr_146_136 (by omega) ?_
                                refine zw_4 zr_146_137 rfl ?_
                                refine zw_49 (c := 70) (len := 826) zr_146_139 rfl rfl (by omega) (by omega) ?_
                                intro m67 em67
                                have hIm67 : zInv m67 := by rw [em67]; exact iu_70_m3 hIm66 (by omega) (by omega)
                                have hFm67 : zFr W_146 m0 m67 := by rw [em67]; exact hFm66.any rfl
                                have km67_70_822 : m67 70 822 = g0 := by rw [em67, zUp_ne (by omega)]; exact km66_70_822
                                have km67_70_823 : m67 70 823 = g1 := by rw [em67, zUp_ne (by omega)]; exact km66_70_823
                                have fm67_70 : m67 70 = zPt (zPt (zPt (zPt F70 ((((90 + (6 * g1)) + 0)).toNat) a0) ((((90 + (6 * g1)) + 1)).toNat) a1) ((((90 + (6 * g1)) + 2)).toNat) a2) ((((90 + (6 * g1)) + 3)).toNat) a3 := by rw [em67]; exact (zUp_ff (m := m66)).trans (congrArg (fun q => zPt q ((((90 + (6 * g1)) + 3)).toNat) a3) fm66_70)
                                clear em67
                                refine zw_7 zr_146_140 rfl ?_
                                refine zw_46r (s := 70) zr_146_141 rfl rfl rfl rfl ?_
                                refine zw_4 zr_146_144 rfl ?_
                                refine zw_push zr_146_146 ?_
                                refine zw_16 zr_146_147 (by omega) ?_
                                refine zw_4 zr_146_148 rfl ?_
                                refine zw_40_1 zr_146_150 ?_ ?_
                                · intro h68
                                  refine zw_push zr_146_157 ?_
                                  refine zw_49 (c := 70) (len := 826) zr_146_158 rfl rfl (by omega) (by omega) ?_
                                  intro m69 em69
                                  have hIm69 : zInv m69 := by rw [em69]; exact iu_70_m4 hIm67 (by omega) (by omega)
                                  have hFm69 : zFr W_146 m0 m69 := by rw [em69]; exact hFm67.any rfl
                                  have km69_70_822 : m69 70 822 = g0 := by rw [em69, zUp_ne (by omega)]; exact km67_70_822
                                  have km69_70_823 : m69 70 823 = g1 := by rw [em69, zUp_ne (by omega)]; exact km67_70_823
                                  have fm69_70 : m69 70 = zPt (zPt (zPt (zPt (zPt F70 ((((90 + (6 * g1)) + 0)).toNat) a0) ((((90 + (6 * g1)) + 1)).toNat) a1) ((((90 + (6 * g1)) + 2)).toNat) a2) ((((90 + (6 * g1)) + 3)).toNat) a3) ((((90 + (6 * g1)) + 4)).toNat) 0 := by rw [em69]; exact (zUp_ff (m := m67)).trans (congrArg (fun q => zPt q ((((90 + (6 * g1)) + 4)).toNat) 0) fm67_70)
                                  clear em69
                                  refine zw_7 zr_146_159 rfl ?_
                                  refine zw_46r (s := 70) zr_146_160 rfl rfl rfl rfl ?_
                                  refine zw_4 zr_146_163 rfl ?_
                                  refine zw_push zr_146_165 ?_
                                  refine zw_16 zr_146_166 (by omega) ?_
                                  refine zw_push zr_146_167 ?_
                                  refine zw_49 (c := 70) (len := 826) zr_146_168 rfl rfl (by omega) (by omega) ?_
                                  intro m70 em70
                                  have hIm70 : zInv m70 := by rw [em70]; exact iu_70_m5 hIm69 (by omega) (by omega)
                                  have hFm70 : zFr W_146 m0 m70 := by rw [em70]; exact hFm69.any rfl
                                  have km70_70_822 : m70 70 822 = g0 := by rw [em70, zUp_ne (by omega)]; exact km69_70_822
                                  have km70_70_823 : m70 70 823 = g1 := by rw [em70, zUp_ne (by omega)]; exact km69_70_823
                                  have fm70_70 : m70 70 = zPt (zPt (zPt (zPt (zPt (zPt F70 ((((90 + (6 * g1)) + 0)).toNat) a0) ((((90 + (6 * g1)) + 1)).toNat) a1) ((((90 + (6 * g1)) + 2)).toNat) a2) ((((90 + (6 * g1)) + 3)).toNat) a3) ((((90 + (6 * g1)) + 4)).toNat) 0) ((((90 + (6 * g1)) + 5)).toNat) 0 := by rw [em70]; exact (zUp_ff (m := m69)).trans (congrArg (fun q => zPt q ((((90 + (6 * g1)) + 5)).toNat) 0) fm69_70)
                                  clear em70
                                  refine zw_7 zr_146_169 rfl ?_
                                  refine zw_46r (s := 70) zr_146_170 rfl rfl rfl rfl ?_
                                  refine zw_push zr_146_173 ?_
                                  refine zw_45 zr_146_176 ⟨rfl, rfl⟩ ?_
                                  refine zw_48k (c := 70) (len := 826) zr_146_177 rfl rfl (by omega) (by omega) (show (823 : Int).toNat = 823 by omega) km70_70_823 ?_
                                  refine zw_push zr_146_178 ?_
                                  refine zw_16 zr_146_179 (by omega) ?_
                                  refine zw_49 (c := 70) (len := 826) zr_146_180 rfl rfl (by omega) (by omega) ?_
                                  intro m71 em71
                                  have hIm71 : zInv m71 := by rw [em71]; exact iu_70_meetings hIm70 (by omega) (by omega)
                                  have hFm71 : zFr W_146 m0 m71 := by rw [em71]; exact hFm70.any rfl
                                  have km71_70_822 : m71 70 822 = g0 := by rw [em71, zUp_ne (by omega)]; exact km70_70_822
                                  have km71_70_823 : m71 70 823 = (g1 + 1) := by rw [em71, show (823 : Int).toNat = 823 by omega]; exact zUp_eq _ _ _ _
                                  have fm71_70 : m71 70 = zPt (zPt (zPt (zPt (zPt (zPt (zPt F70 ((((90 + (6 * g1)) + 0)).toNat) a0) ((((90 + (6 * g1)) + 1)).toNat) a1) ((((90 + (6 * g1)) + 2)).toNat) a2) ((((90 + (6 * g1)) + 3)).toNat) a3) ((((90 + (6 * g1)) + 4)).toNat) 0) ((((90 + (6 * g1)) + 5)).toNat) 0) 823 ((g1 + 1)) := by rw [em71]; exact (zUp_ff (m := m70)).trans (congrArg (fun q => zPt q 823 ((g1 + 1))) fm70_70)
                                  clear em71
                                  refine zw_7 zr_146_181 rfl ?_
                                  refine zw_C zr_146_182 (Or.inl rfl) zm_142 rfl rfl ⟨Nat.le_of_ble_eq_true rfl, Nat.le_of_ble_eq_true rfl, Nat.le_of_ble_eq_true rfl, rfl, by decide⟩ (by omega) (P := (fun v m' => zW E (d) 146 185 [(2, 69), (0, a0), (0, a1), (0, a2), (0, a3), (0, a4), (0, x3), (0, (90 + (6 * g1)))] (if v.1 = 9 then [] else v :: []) m' Q)) ?_ (fun _ _ h => h)
                                  generalize hQ1 : (fun v m' => zW E (d) 146 185 [(2, 69), (0, a0), (0, a1), (0, a2), (0, a3), (0, a4), (0, x3), (0, (90 + (6 * g1)))] (if v.1 = 9 then [] else v :: []) m' Q) = Q1
                                  show zW E (d - 1) 142 0 [(2, 69)] [] m71 Q1
                                  refine zw_7 zr_142_0 rfl ?_
                                  refine zw_46r (s := 70) zr_142_1 rfl rfl rfl rfl ?_
                                  refine zw_push zr_142_4 ?_
                                  refine zw_48k (c := 70) (len := 826) zr_142_7 rfl rfl (by omega) (by omega) (show (823 : Int).toNat = 823 by omega) km71_70_823 ?_
                                  refine zw_R zr_142_8 (by decide) zm_142 (v := (0, (g1 + 1))) rfl ?_
                                  rw [← hQ1]
                                  show zW E (d) 146 185 [(2, 69), (0, a0), (0, a1), (0, a2), (0, a3), (0, a4), (0, x3), (0, (90 + (6 * g1)))] [(0, (g1 + 1))] m71 Q
                                  refine zw_push zr_146_185 ?_
                                  refine zw_17 zr_146_186 (by omega) ?_
                                  refine zw_R zr_146_187 (by decide) zm_146 (v := (0, ((g1 + 1) - 1))) rfl ?_
                                  rw [← hQ]; exact ⟨_, rfl, by omega, by omega, hIm71, hFm71, by omega, by rw [fm71_70]; first | exact (if_neg (by omega)).symm | exact (if_pos (by omega)).symm | (rw [show a4 = 1 by omega]; first | exact (if_neg (by omega)).symm | exact (if_pos (by omega)).symm) | (rw [show a4 = 0 by omega]; first | exact (if_neg (by omega)).symm | exact (if_pos (by omega)).symm)⟩
                                · intro h74
                                  refine zw_push zr_146_153 ?_
                                  refine zw_42 zr_146_154 ?_
                                  refine zw_49 (c := 70) (len := 826) zr_146_158 rfl rfl (by omega) (by omega) ?_
                                  intro m75 em75
                                  have hIm75 : zInv m75 := by rw [em75]; exact iu_70_m4 hIm67 (by omega) (by omega)
                                  have hFm75 : zFr W_146 m0 m75 := by rw [em75]; exact hFm67.any rfl
                                  have km75_70_822 : m75 70 822 = g0 := by rw [em75, zUp_ne (by omega)]; exact km67_70_822
                                  have km75_70_823 : m75 70 823 = g1 := by rw [em75, zUp_ne (by omega)]; exact km67_70_823
                                  have fm75_70 : m75 70 = zPt (zPt (zPt (zPt (zPt F70 ((((90 + (6 * g1)) + 0)).toNat) a0) ((((90 + (6 * g1)) + 1)).toNat) a1) ((((90 + (6 * g1)) + 2)).toNat) a2) ((((90 + (6 * g1)) + 3)).toNat) a3) ((((90 + (6 * g1)) + 4)).toNat) 1 := by rw [em75]; exact (zUp_ff (m := m67)).trans (congrArg (fun q => zPt q ((((90 + (6 * g1)) + 4)).toNat) 1) fm67_70)
                                  clear em75
                                  refine zw_7 zr_146_159 rfl ?_
                                  refine zw_46r (s := 70) zr_146_160 rfl rfl rfl rfl ?_
                                  refine zw_4 zr_146_163 rfl ?_
                                  refine zw_push zr_146_165 ?_
                                  refine zw_16 zr_146_166 (by omega) ?_
                                  refine zw_push zr_146_167 ?_
                                  refine zw_49 (c := 70) (len := 826) zr_146_168 rfl rfl (by omega) (by omega) ?_
                                  intro m76 em76
                                  have hIm76 : zInv m76 := by rw [em76]; exact iu_70_m5 hIm75 (by omega) (by omega)
                                  have hFm76 : zFr W_146 m0 m76 := by rw [em76]; exact hFm75.any rfl
                                  have km76_70_822 : m76 70 822 = g0 := by rw [em76, zUp_ne (by omega)]; exact km75_70_822
                                  have km76_70_823 : m76 70 823 = g1 := by rw [em76, zUp_ne (by omega)]; exact km75_70_823
                                  have fm76_70 : m76 70 = zPt (zPt (zPt (zPt (zPt (zPt F70 ((((90 + (6 * g1)) + 0)).toNat) a0) ((((90 + (6 * g1)) + 1)).toNat) a1) ((((90 + (6 * g1)) + 2)).toNat) a2) ((((90 + (6 * g1)) + 3)).toNat) a3) ((((90 + (6 * g1)) + 4)).toNat) 1) ((((90 + (6 * g1)) + 5)).toNat) 0 := by rw [em76]; exact (zUp_ff (m := m75)).trans (congrArg (fun q => zPt q ((((90 + (6 * g1)) + 5)).toNat) 0) fm75_70)
                                  clear em76
                                  refine zw_7 zr_146_169 rfl ?_
                                  refine zw_46r (s := 70) zr_146_170 rfl rfl rfl rfl ?_
                                  refine zw_push zr_146_173 ?_
                                  refine zw_45 zr_146_176 ⟨rfl, rfl⟩ ?_
                                  refine zw_48k (c := 70) (len := 826) zr_146_177 rfl rfl (by omega) (by omega) (show (823 : Int).toNat = 823 by omega) km76_70_823 ?_
                                  refine zw_push zr_146_178 ?_
                                  refine zw_16 zr_146_179 (by omega) ?_
                                  refine zw_49 (c := 70) (len := 826) zr_146_180 rfl rfl (by omega) (by omega) ?_
                                  intro m77 em77
                                  have hIm77 : zInv m77 := by rw [em77]; exact iu_70_meetings hIm76 (by omega) (by omega)
                                  have hFm77 : zFr W_146 m0 m77 := by rw [em77]; exact hFm76.any rfl
                                  have km77_70_822 : m77 70 822 = g0 := by rw [em77, zUp_ne (by omega)]; exact km76_70_822
                                  have km77_70_823 : m77 70 823 = (g1 + 1) := by rw [em77, show (823 : Int).toNat = 823 by omega]; exact zUp_eq _ _ _ _
                                  have fm77_70 : m77 70 = zPt (zPt (zPt (zPt (zPt (zPt (zPt F70 ((((90 + (6 * g1)) + 0)).toNat) a0) ((((90 + (6 * g1)) + 1)).toNat) a1) ((((90 + (6 * g1)) + 2)).toNat) a2) ((((90 + (6 * g1)) + 3)).toNat) a3) ((((90 + (6 * g1)) + 4)).toNat) 1) ((((90 + (6 * g1)) + 5)).toNat) 0) 823 ((g1 + 1)) := by rw [em77]; exact (zUp_ff (m := m76)).trans (congrArg (fun q => zPt q 823 ((g1 + 1))) fm76_70)
                                  clear em77
                                  refine zw_7 zr_146_181 rfl ?_
                                  refine zw_C zr_146_182 (Or.inl rfl) zm_142 rfl rfl ⟨Nat.le_of_ble_eq_true rfl, Nat.le_of_ble_eq_true rfl, Nat.le_of_ble_eq_true rfl, rfl, by decide⟩ (by omega) (P := (fun v m' => zW E (d) 146 185 [(2, 69), (0, a0), (0, a1), (0, a2), (0, a3), (0, a4), (0, x3), (0, (90 + (6 * g1)))] (if v.1 = 9 then [] else v :: []) m' Q)) ?_ (fun _ _ h => h)
                                  generalize hQ1 : (fun v m' => zW E (d) 146 185 [(2, 69), (0, a0), (0, a1), (0, a2), (0, a3), (0, a4), (0, x3), (0, (90 + (6 * g1)))] (if v.1 = 9 then [] else v :: []) m' Q) = Q1
                                  show zW E (d - 1) 142 0 [(2, 69)] [] m77 Q1
                                  refine zw_7 zr_142_0 rfl ?_
                                  refine zw_46r (s := 70) zr_142_1 rfl rfl rfl rfl ?_
                                  refine zw_push zr_142_4 ?_
                                  refine zw_48k (c := 70) (len := 826) zr_142_7 rfl rfl (by omega) (by omega) (show (823 : Int).toNat = 823 by omega) km77_70_823 ?_
                                  refine zw_R zr_142_8 (by decide) zm_142 (v := (0, (g1 + 1))) rfl ?_
                                  rw [← hQ1]
                                  show zW E (d) 146 185 [(2, 69), (0, a0), (0, a1), (0, a2), (0, a3), (0, a4), (0, x3), (0, (90 + (6 * g1)))] [(0, (g1 + 1))] m77 Q
                                  refine zw_push zr_146_185 ?_
                                  refine zw_17 zr_146_186 (by omega) ?_
                                  refine zw_R zr_146_187 (by decide) zm_146 (v := (0, ((g1 + 1) - 1))) rfl ?_
                                  rw [← hQ]; exact ⟨_, rfl, by omega, by omega, hIm77, hFm77, by omega, by rw [fm77_70]; first | exact (if_neg (by omega)).symm | exact (if_pos (by omega)).symm | (rw [show a4 = 1 by omega]; first | exact (if_neg (by omega)).symm | exact (if_pos (by omega)).symm) | (rw [show a4 = 0 by omega]; first | exact (if_neg (by omega)).symm | exact (if_pos (by omega)).symm)⟩
                              · intro h80
                                refine zw_push zr_146_84 ?_
                                refine zw_R zr_146_86 (by decide) zm_146 (v := (0, (-4))) rfl ?_
                                rw [← hQ]; exact ⟨_, rfl, by omega, by omega, hI0, hF0, by omega, by rw [hG70]; first | exact (if_neg (by omega)).symm | exact (if_pos (by omega)).symm | (rw [show a4 = 1 by omega]; first | exact (if_neg (by omega)).symm | exact (if_pos (by omega)).symm) | (rw [show a4 = 0 by omega]; first | exact (if_neg (by omega)).symm | exact (if_pos (by omega)).symm)⟩
                            · intro h83; omega
  · intro h84
    refine zw_push zr_146_7 ?_
    refine zw_42 zr_146_8 ?_
    refine zw_10 (L' := [(2, 69), (0, a0), (0, a1), (0, a2), (0, a3), (0, a4), (0, 0), (9, 0)]) zr_146_22 (Nat.le_of_ble_eq_true rfl) rfl ?_
    refine zw_3 zr_146_24 rfl ?_
    refine zw_36 zr_146_25 ?_
    refine zw_4 zr_146_26 rfl ?_
    refine zw_36 zr_146_28 ?_
    refine zw_push zr_146_29 ?_
    refine zw_C zr_146_32 (Or.inr rfl) zm_140 rfl rfl ⟨Nat.le_of_ble_eq_true rfl, Nat.le_of_ble_eq_true rfl, Nat.le_of_ble_eq_true rfl, rfl, by decide⟩ (by omega) (P := (fun v m' => zW E (d) 146 35 [(2, 69), (0, a0), (0, a1), (0, a2), (0, a3), (0, a4), (0, 0), (9, 0)] (if v.1 = 9 then [] else v :: []) m' Q)) ?_ (fun _ _ h => h)
    generalize hQ1 : (fun v m' => zW E (d) 146 35 [(2, 69), (0, a0), (0, a1), (0, a2), (0, a3), (0, a4), (0, 0), (9, 0)] (if v.1 = 9 then [] else v :: []) m' Q) = Q1
    show zW E (d - 1) 140 0 [(1, a0), (9, 0), (1, 0), (9, 0), (1, 99), (9, 0)] [] m0 Q1
    refine zw_5 zr_140_0 rfl ?_
    refine zw_5 zr_140_1 rfl ?_
    refine zw_39_0 zr_140_2 zr_140_3 ?_ ?_
    · intro h85
      refine zw_push zr_140_17 ?_
      refine zw_R zr_140_18 (by decide) zm_140 (v := (0, 0)) (zRetB (by omega)) ?_
      rw [← hQ1]
      show zW E (d) 146 35 [(2, 69), (0, a0), (0, a1), (0, a2), (0, a3), (0, a4), (0, 0), (9, 0)] [(0, 0)] m0 Q
      refine zw_40_1 zr_146_35 ?_ ?_
      · intro h86
        refine zw_push zr_146_72 ?_
        refine zw_R zr_146_74 (by decide) zm_146 (v := (0, (-2))) rfl ?_
        rw [← hQ]; exact ⟨_, rfl, by omega, by omega, hI0, hF0, by omega, by rw [hG70]; first | exact (if_neg (by omega)).symm | exact (if_pos (by omega)).symm | (rw [show a4 = 1 by omega]; first | exact (if_neg (by omega)).symm | exact (if_pos (by omega)).symm) | (rw [show a4 = 0 by omega]; first | exact (if_neg (by omega)).symm | exact (if_pos (by omega)).symm)⟩
      · intro h89; omega
    · intro h90
      refine zw_5 zr_140_6 rfl ?_
      refine zw_6 zr_140_7 rfl ?_
      refine zw_39_2 zr_140_9 zr_140_10 ?_ ?_
      · intro h91
        refine zw_push zr_140_17 ?_
        refine zw_R zr_140_18 (by decide) zm_140 (v := (0, 0)) (zRetB (by omega)) ?_
        rw [← hQ1]
        show zW E (d) 146 35 [(2, 69), (0, a0), (0, a1), (0, a2), (0, a3), (0, a4), (0, 0), (9, 0)] [(0, 0)] m0 Q
        refine zw_40_1 zr_146_35 ?_ ?_
        · intro h92
          refine zw_push zr_146_72 ?_
          refine zw_R zr_146_74 (by decide) zm_146 (v := (0, (-2))) rfl ?_
          rw [← hQ]; exact ⟨_, rfl, by omega, by omega, hI0, hF0, by omega, by rw [hG70]; first | exact (if_neg (by omega)).symm | exact (if_pos (by omega)).symm | (rw [show a4 = 1 by omega]; first | exact (if_neg (by omega)).symm | exact (if_pos (by omega)).symm) | (rw [show a4 = 0 by omega]; first | exact (if_neg (by omega)).symm | exact (if_pos (by omega)).symm)⟩
        · intro h95; omega
      · intro h96
        refine zw_push zr_140_13 ?_
        refine zw_42 zr_140_14 ?_
        refine zw_R zr_140_18 (by decide) zm_140 (v := (0, 1)) (zRetB (by omega)) ?_
        rw [← hQ1]
        show zW E (d) 146 35 [(2, 69), (0, a0), (0, a1), (0, a2), (0, a3), (0, a4), (0, 0), (9, 0)] [(0, 1)] m0 Q
        refine zw_40_1 zr_146_35 ?_ ?_
        · intro h97; omega
        · intro h98
          refine zw_7 zr_146_38 rfl ?_
          refine zw_3 zr_146_39 rfl ?_
          refine zw_C zr_146_40 (Or.inl rfl) zm_143 rfl rfl ⟨Nat.le_of_ble_eq_true rfl, Nat.le_of_ble_eq_true rfl, Nat.le_of_ble_eq_true rfl, rfl, by decide⟩ (by omega) (P := (fun v m' => zW E (d) 146 43 [(2, 69), (0, a0), (0, a1), (0, a2), (0, a3), (0, a4), (0, 0), (9, 0)] (if v.1 = 9 then [] else v :: []) m' Q)) ?_ (fun _ _ h => h)
          generalize hQ1 : (fun v m' => zW E (d) 146 43 [(2, 69), (0, a0), (0, a1), (0, a2), (0, a3), (0, a4), (0, 0), (9, 0)] (if v.1 = 9 then [] else v :: []) m' Q) = Q1
          show zW E (d - 1) 143 0 [(2, 69), (0, a1)] [] m0 Q1
          refine zw_3 zr_143_0 rfl ?_
          refine zw_36 zr_143_1 ?_
          refine zw_push zr_143_2 ?_
          refine zw_7 zr_143_3 rfl ?_
          refine zw_C zr_143_4 (Or.inl rfl) zm_141 rfl rfl ⟨Nat.le_of_ble_eq_true rfl, Nat.le_of_ble_eq_true rfl, Nat.le_of_ble_eq_true rfl, rfl, by decide⟩ (by omega) (P := (fun v m' => zW E (d - 1) 143 7 [(2, 69), (0, a1)] (if v.1 = 9 then [(1, 0), (1, a1)] else v :: [(1, 0), (1, a1)]) m' Q1)) ?_ (fun _ _ h => h)
          generalize hQ2 : (fun v m' => zW E (d - 1) 143 7 [(2, 69), (0, a1)] (if v.1 = 9 then [(1, 0), (1, a1)] else v :: [(1, 0), (1, a1)]) m' Q1) = Q2
          show zW E (d - 1 - 1) 141 0 [(2, 69)] [] m0 Q2
          refine zw_7 zr_141_0 rfl ?_
          refine zw_46r (s := 70) zr_141_1 rfl rfl rfl rfl ?_
          refine zw_push zr_141_4 ?_
          refine zw_48k (c := 70) (len := 826) zr_141_7 rfl rfl (by omega) (by omega) (show (822 : Int).toNat = 822 by omega) hg0 ?_
          refine zw_R zr_141_8 (by decide) zm_141 (v := (0, g0)) rfl ?_
          rw [← hQ2]
          show zW E (d - 1) 143 7 [(2, 69), (0, a1)] [(0, g0), (1, 0), (1, a1)] m0 Q1
          refine zw_push zr_143_7 ?_
          refine zw_17 zr_143_8 (by omega) ?_
          refine zw_36 zr_143_9 ?_
          refine zw_C zr_143_10 (Or.inr rfl) zm_140 rfl rfl ⟨Nat.le_of_ble_eq_true rfl, Nat.le_of_ble_eq_true rfl, Nat.le_of_ble_eq_true rfl, rfl, by decide⟩ (by omega) (P := (fun v m' => zW E (d - 1) 143 13 [(2, 69), (0, a1)] (if v.1 = 9 then [] else v :: []) m' Q1)) ?_ (fun _ _ h => h)
          generalize hQ2 : (fun v m' => zW E (d - 1) 143 13 [(2, 69), (0, a1)] (if v.1 = 9 then [] else v :: []) m' Q1) = Q2
          show zW E (d - 1 - 1) 140 0 [(1, a1), (9, 0), (1, 0), (9, 0), (1, (g0 - 1)), (9, 0)] [] m0 Q2
          refine zw_5 zr_140_0 rfl ?_
          refine zw_5 zr_140_1 rfl ?_
          refine zw_39_0 zr_140_2 zr_140_3 ?_ ?_
          · intro h99
            refine zw_push zr_140_17 ?_
            refine zw_R zr_140_18 (by decide) zm_140 (v := (0, 0)) (zRetB (by omega)) ?_
            rw [← hQ2]
            show zW E (d - 1) 143 13 [(2, 69), (0, a1)] [(0, 0)] m0 Q1
            refine zw_R zr_143_13 (by decide) zm_143 (v := (0, 0)) (zRetB (by omega)) ?_
            rw [← hQ1]
            show zW E (d) 146 43 [(2, 69), (0, a0), (0, a1), (0, a2), (0, a3), (0, a4), (0, 0), (9, 0)] [(0, 0)] m0 Q
            refine zw_40_1 zr_146_43 ?_ ?_
            · intro h100
              refine zw_push zr_146_72 ?_
              refine zw_R zr_146_74 (by decide) zm_146 (v := (0, (-2))) rfl ?_
              rw [← hQ]; exact ⟨_, rfl, by omega, by omega, hI0, hF0, by omega, by rw [hG70]; first | exact (if_neg (by omega)).symm | exact (if_pos (by omega)).symm | (rw [show a4 = 1 by omega]; first | exact (if_neg (by omega)).symm | exact (if_pos (by omega)).symm) | (rw [show a4 = 0 by omega]; first | exact (if_neg (by omega)).symm | exact (if_pos (by omega)).symm)⟩
            · intro h103; omega
          · intro h104
            refine zw_5 zr_140_6 rfl ?_
            refine zw_6 zr_140_7 rfl ?_
            refine zw_39_2 zr_140_9 zr_140_10 ?_ ?_
            · intro h105
              refine zw_push zr_140_17 ?_
              refine zw_R zr_140_18 (by decide) zm_140 (v := (0, 0)) (zRetB (by omega)) ?_
              rw [← hQ2]
              show zW E (d - 1) 143 13 [(2, 69), (0, a1)] [(0, 0)] m0 Q1
              refine zw_R zr_143_13 (by decide) zm_143 (v := (0, 0)) (zRetB (by omega)) ?_
              rw [← hQ1]
              show zW E (d) 146 43 [(2, 69), (0, a0), (0, a1), (0, a2), (0, a3), (0, a4), (0, 0), (9, 0)] [(0, 0)] m0 Q
              refine zw_40_1 zr_146_43 ?_ ?_
              · intro h106
                refine zw_push zr_146_72 ?_
                refine zw_R zr_146_74 (by decide) zm_146 (v := (0, (-2))) rfl ?_
                rw [← hQ]; exact ⟨_, rfl, by omega, by omega, hI0, hF0, by omega, by rw [hG70]; first | exact (if_neg (by omega)).symm | exact (if_pos (by omega)).symm | (rw [show a4 = 1 by omega]; first | exact (if_neg (by omega)).symm | exact (if_pos (by omega)).symm) | (rw [show a4 = 0 by omega]; first | exact (if_neg (by omega)).symm | exact (if_pos (by omega)).symm)⟩
              · intro h109; omega
            · intro h110
              refine zw_push zr_140_13 ?_
              refine zw_42 zr_140_14 ?_
              refine zw_R zr_140_18 (by decide) zm_140 (v := (0, 1)) (zRetB (by omega)) ?_
              rw [← hQ2]
              show zW E (d - 1) 143 13 [(2, 69), (0, a1)] [(0, 1)] m0 Q1
              refine zw_R zr_143_13 (by decide) zm_143 (v := (0, 1)) (zRetB (by omega)) ?_
              rw [← hQ1]
              show zW E (d) 146 43 [(2, 69), (0, a0), (0, a1), (0, a2), (0, a3), (0, a4), (0, 0), (9, 0)] [(0, 1)] m0 Q
              refine zw_40_1 zr_146_43 ?_ ?_
              · intro h111; omega
              · intro h112
                refine zw_7 zr_146_46 rfl ?_
                refine zw_3 zr_146_47 rfl ?_
                refine zw_C zr_146_48 (Or.inl rfl) zm_143 rfl rfl ⟨Nat.le_of_ble_eq_true rfl, Nat.le_of_ble_eq_true rfl, Nat.le_of_ble_eq_true rfl, rfl, by decide⟩ (by omega) (P := (fun v m' => zW E (d) 146 51 [(2, 69), (0, a0), (0, a1), (0, a2), (0, a3), (0, a4), (0, 0), (9, 0)] (if v.1 = 9 then [] else v :: []) m' Q)) ?_ (fun _ _ h => h)
                generalize hQ1 : (fun v m' => zW E (d) 146 51 [(2, 69), (0, a0), (0, a1), (0, a2), (0, a3), (0, a4), (0, 0), (9, 0)] (if v.1 = 9 then [] else v :: []) m' Q) = Q1
                show zW E (d - 1) 143 0 [(2, 69), (0, a2)] [] m0 Q1
                refine zw_3 zr_143_0 rfl ?_
                refine zw_36 zr_143_1 ?_
                refine zw_push zr_143_2 ?_
                refine zw_7 zr_143_3 rfl ?_
                refine zw_C zr_143_4 (Or.inl rfl) zm_141 rfl rfl ⟨Nat.le_of_ble_eq_true rfl, Nat.le_of_ble_eq_true rfl, Nat.le_of_ble_eq_true rfl, rfl, by decide⟩ (by omega) (P := (fun v m' => zW E (d - 1) 143 7 [(2, 69), (0, a2)] (if v.1 = 9 then [(1, 0), (1, a2)] else v :: [(1, 0), (1, a2)]) m' Q1)) ?_ (fun _ _ h => h)
                generalize hQ2 : (fun v m' => zW E (d - 1) 143 7 [(2, 69), (0, a2)] (if v.1 = 9 then [(1, 0), (1, a2)] else v :: [(1, 0), (1, a2)]) m' Q1) = Q2
                show zW E (d - 1 - 1) 141 0 [(2, 69)] [] m0 Q2
                refine zw_7 zr_141_0 rfl ?_
                refine zw_46r (s := 70) zr_141_1 rfl rfl rfl rfl ?_
                refine zw_push zr_141_4 ?_
                refine zw_48k (c := 70) (len := 826) zr_141_7 rfl rfl (by omega) (by omega) (show (822 : Int).toNat = 822 by omega) hg0 ?_
                refine zw_R zr_141_8 (by decide) zm_141 (v := (0, g0)) rfl ?_
                rw [← hQ2]
                show zW E (d - 1) 143 7 [(2, 69), (0, a2)] [(0, g0), (1, 0), (1, a2)] m0 Q1
                refine zw_push zr_143_7 ?_
                refine zw_17 zr_143_8 (by omega) ?_
                refine zw_36 zr_143_9 ?_
                refine zw_C zr_143_10 (Or.inr rfl) zm_140 rfl rfl ⟨Nat.le_of_ble_eq_true rfl, Nat.le_of_ble_eq_true rfl, Nat.le_of_ble_eq_true rfl, rfl, by decide⟩ (by omega) (P := (fun v m' => zW E (d - 1) 143 13 [(2, 69), (0, a2)] (if v.1 = 9 then [] else v :: []) m' Q1)) ?_ (fun _ _ h => h)
                generalize hQ2 : (fun v m' => zW E (d - 1) 143 13 [(2, 69), (0, a2)] (if v.1 = 9 then [] else v :: []) m' Q1) = Q2
                show zW E (d - 1 - 1) 140 0 [(1, a2), (9, 0), (1, 0), (9, 0), (1, (g0 - 1)), (9, 0)] [] m0 Q2
                refine zw_5 zr_140_0 rfl ?_
                refine zw_5 zr_140_1 rfl ?_
                refine zw_39_0 zr_140_2 zr_140_3 ?_ ?_
                · intro h113
                  refine zw_push zr_140_17 ?_
                  refine zw_R zr_140_18 (by decide) zm_140 (v := (0, 0)) (zRetB (by omega)) ?_
                  rw [← hQ2]
                  show zW E (d - 1) 143 13 [(2, 69), (0, a2)] [(0, 0)] m0 Q1
                  refine zw_R zr_143_13 (by decide) zm_143 (v := (0, 0)) (zRetB (by omega)) ?_
                  rw [← hQ1]
                  show zW E (d) 146 51 [(2, 69), (0, a0), (0, a1), (0, a2), (0, a3), (0, a4), (0, 0), (9, 0)] [(0, 0)] m0 Q
                  refine zw_40_1 zr_146_51 ?_ ?_
                  · intro h114
                    refine zw_push zr_146_72 ?_
                    refine zw_R zr_146_74 (by decide) zm_146 (v := (0, (-2))) rfl ?_
                    rw [← hQ]; exact ⟨_, rfl, by omega, by omega, hI0, hF0, by omega, by rw [hG70]; first | exact (if_neg (by omega)).symm | exact (if_pos (by omega)).symm | (rw [show a4 = 1 by omega]; first | exact (if_neg (by omega)).symm | exact (if_pos (by omega)).symm) | (rw [show a4 = 0 by omega]; first | exact (if_neg (by omega)).symm | exact (if_pos (by omega)).symm)⟩
                  · intro h117; omega
                · intro h118
                  refine zw_5 zr_140_6 rfl ?_
                  refine zw_6 zr_140_7 rfl ?_
                  refine zw_39_2 zr_140_9 zr_140_10 ?_ ?_
                  · intro h119
                    refine zw_push zr_140_17 ?_
                    refine zw_R zr_140_18 (by decide) zm_140 (v := (0, 0)) (zRetB (by omega)) ?_
                    rw [← hQ2]
                    show zW E (d - 1) 143 13 [(2, 69), (0, a2)] [(0, 0)] m0 Q1
                    refine zw_R zr_143_13 (by decide) zm_143 (v := (0, 0)) (zRetB (by omega)) ?_
                    rw [← hQ1]
                    show zW E (d) 146 51 [(2, 69), (0, a0), (0, a1), (0, a2), (0, a3), (0, a4), (0, 0), (9, 0)] [(0, 0)] m0 Q
                    refine zw_40_1 zr_146_51 ?_ ?_
                    · intro h120
                      refine zw_push zr_146_72 ?_
                      refine zw_R zr_146_74 (by decide) zm_146 (v := (0, (-2))) rfl ?_
                      rw [← hQ]; exact ⟨_, rfl, by omega, by omega, hI0, hF0, by omega, by rw [hG70]; first | exact (if_neg (by omega)).symm | exact (if_pos (by omega)).symm | (rw [show a4 = 1 by omega]; first | exact (if_neg (by omega)).symm | exact (if_pos (by omega)).symm) | (rw [show a4 = 0 by omega]; first | exact (if_neg (by omega)).symm | exact (if_pos (by omega)).symm)⟩
                    · intro h123; omega
                  · intro h124
                    refine zw_push zr_140_13 ?_
                    refine zw_42 zr_140_14 ?_
                    refine zw_R zr_140_18 (by decide) zm_140 (v := (0, 1)) (zRetB (by omega)) ?_
                    rw [← hQ2]
                    show zW E (d - 1) 143 13 [(2, 69), (0, a2)] [(0, 1)] m0 Q1
                    refine zw_R zr_143_13 (by decide) zm_143 (v := (0, 1)) (zRetB (by omega)) ?_
                    rw [← hQ1]
                    show zW E (d) 146 51 [(2, 69), (0, a0), (0, a1), (0, a2), (0, a3), (0, a4), (0, 0), (9, 0)] [(0, 1)] m0 Q
                    refine zw_40_1 zr_146_51 ?_ ?_
                    · intro h125; omega
                    · intro h126
                      refine zw_3 zr_146_54 rfl ?_
                      refine zw_3 zr_146_55 rfl ?_
                      refine zw_41_1 zr_146_56 ?_ ?_
                      · intro h127
                        refine zw_push zr_146_72 ?_
                        refine zw_R zr_146_74 (by decide) zm_146 (v := (0, (-2))) rfl ?_
                        rw [← hQ]; exact ⟨_, rfl, by omega, by omega, hI0, hF0, by omega, by rw [hG70]; first | exact (if_neg (by omega)).symm | exact (if_pos (by omega)).symm | (rw [show a4 = 1 by omega]; first | exact (if_neg (by omega)).symm | exact (if_pos (by omega)).symm) | (rw [show a4 = 0 by omega]; first | exact (if_neg (by omega)).symm | exact (if_pos (by omega)).symm)⟩
                      · intro h130
                        refine zw_4 zr_146_59 rfl ?_
                        refine zw_36 zr_146_61 ?_
                        refine zw_push zr_146_62 ?_
                        refine zw_push zr_146_63 ?_
                        refine zw_C zr_146_66 (Or.inr rfl) zm_140 rfl rfl ⟨Nat.le_of_ble_eq_true rfl, Nat.le_of_ble_eq_true rfl, Nat.le_of_ble_eq_true rfl, rfl, by decide⟩ (by omega) (P := (fun v m' => zW E (d) 146 69 [(2, 69), (0, a0), (0, a1), (0, a2), (0, a3), (0, a4), (0, 0), (9, 0)] (if v.1 = 9 then [] else v :: []) m' Q)) ?_ (fun _ _ h => h)
                        generalize hQ1 : (fun v m' => zW E (d) 146 69 [(2, 69), (0, a0), (0, a1), (0, a2), (0, a3), (0, a4), (0, 0), (9, 0)] (if v.1 = 9 then [] else v :: []) m' Q) = Q1
                        show zW E (d - 1) 140 0 [(1, a3), (9, 0), (1, 0), (9, 0), (1, 2), (9, 0)] [] m0 Q1
                        refine zw_5 zr_140_0 rfl ?_
                        refine zw_5 zr_140_1 rfl ?_
                        refine zw_39_0 zr_140_2 zr_140_3 ?_ ?_
                        · intro h131
                          refine zw_push zr_140_17 ?_
                          refine zw_R zr_140_18 (by decide) zm_140 (v := (0, 0)) (zRetB (by omega)) ?_
                          rw [← hQ1]
                          show zW E (d) 146 69 [(2, 69), (0, a0), (0, a1), (0, a2), (0, a3), (0, a4), (0, 0), (9, 0)] [(0, 0)] m0 Q
                          refine zw_40_4 zr_146_69 ?_ ?_
                          · intro h132; omega
                          · intro h133
                            refine zw_push zr_146_72 ?_
                            refine zw_R zr_146_74 (by decide) zm_146 (v := (0, (-2))) rfl ?_
                            rw [← hQ]; exact ⟨_, rfl, by omega, by omega, hI0, hF0, by omega, by rw [hG70]; first | exact (if_neg (by omega)).symm | exact (if_pos (by omega)).symm | (rw [show a4 = 1 by omega]; first | exact (if_neg (by omega)).symm | exact (if_pos (by omega)).symm) | (rw [show a4 = 0 by omega]; first | exact (if_neg (by omega)).symm | exact (if_pos (by omega)).symm)⟩
                        · intro h136
                          refine zw_5 zr_140_6 rfl ?_
                          refine zw_6 zr_140_7 rfl ?_
                          refine zw_39_2 zr_140_9 zr_140_10 ?_ ?_
                          · intro h137
                            refine zw_push zr_140_17 ?_
                            refine zw_R zr_140_18 (by decide) zm_140 (v := (0, 0)) (zRetB (by omega)) ?_
                            rw [← hQ1]
                            show zW E (d) 146 69 [(2, 69), (0, a0), (0, a1), (0, a2), (0, a3), (0, a4), (0, 0), (9, 0)] [(0, 0)] m0 Q
                            refine zw_40_4 zr_146_69 ?_ ?_
                            · intro h138; omega
                            · intro h139
                              refine zw_push zr_146_72 ?_
                              refine zw_R zr_146_74 (by decide) zm_146 (v := (0, (-2))) rfl ?_
                              rw [← hQ]; exact ⟨_, rfl, by omega, by omega, hI0, hF0, by omega, by rw [hG70]; first | exact (if_neg (by omega)).symm | exact (if_pos (by omega)).symm | (rw [show a4 = 1 by omega]; first | exact (if_neg (by omega)).symm | exact (if_pos (by omega)).symm) | (rw [show a4 = 0 by omega]; first | exact (if_neg (by omega)).symm | exact (if_pos (by omega)).symm)⟩
                          · intro h142
                            refine zw_push zr_140_13 ?_
                            refine zw_42 zr_140_14 ?_
                            refine zw_R zr_140_18 (by decide) zm_140 (v := (0, 1)) (zRetB (by omega)) ?_
                            rw [← hQ1]
                            show zW E (d) 146 69 [(2, 69), (0, a0), (0, a1), (0, a2), (0, a3), (0, a4), (0, 0), (9, 0)] [(0, 1)] m0 Q
                            refine zw_40_4 zr_146_69 ?_ ?_
                            · intro h143
                              refine zw_7 zr_146_75 rfl ?_
                              refine zw_C zr_146_76 (Or.inl rfl) zm_142 rfl rfl ⟨Nat.le_of_ble_eq_true rfl, Nat.le_of_ble_eq_true rfl, Nat.le_of_ble_eq_true rfl, rfl, by decide⟩ (by omega) (P := (fun v m' => zW E (d) 146 79 [(2, 69), (0, a0), (0, a1), (0, a2), (0, a3), (0, a4), (0, 0), (9, 0)] (if v.1 = 9 then [] else v :: []) m' Q)) ?_ (fun _ _ h => h)
                              generalize hQ1 : (fun v m' => zW E (d) 146 79 [(2, 69), (0, a0), (0, a1), (0, a2), (0, a3), (0, a4), (0, 0), (9, 0)] (if v.1 = 9 then [] else v :: []) m' Q) = Q1
                              show zW E (d - 1) 142 0 [(2, 69)] [] m0 Q1
                              refine zw_7 zr_142_0 rfl ?_
                              refine zw_46r (s := 70) zr_142_1 rfl rfl rfl rfl ?_
                              refine zw_push zr_142_4 ?_
                              refine zw_48k (c := 70) (len := 826) zr_142_7 rfl rfl (by omega) (by omega) (show (823 : Int).toNat = 823 by omega) hg1 ?_
                              refine zw_R zr_142_8 (by decide) zm_142 (v := (0, g1)) rfl ?_
                              rw [← hQ1]
                              show zW E (d) 146 79 [(2, 69), (0, a0), (0, a1), (0, a2), (0, a3), (0, a4), (0, 0), (9, 0)] [(0, g1)] m0 Q
                              refine zw_push zr_146_79 ?_
                              refine zw_41_4 zr_146_81 ?_ ?_
                              · intro h144
                                refine zw_push zr_146_87 ?_
                                refine zw_push zr_146_89 ?_
                                refine zw_7 zr_146_91 rfl ?_
                                refine zw_C zr_146_92 (Or.inl rfl) zm_142 rfl rfl ⟨Nat.le_of_ble_eq_true rfl, Nat.le_of_ble_eq_true rfl, Nat.le_of_ble_eq_true rfl, rfl, by decide⟩ (by omega) (P := (fun v m' => zW E (d) 146 95 [(2, 69), (0, a0), (0, a1), (0, a2), (0, a3), (0, a4), (0, 0), (9, 0)] (if v.1 = 9 then [(0, 6), (0, 90)] else v :: [(0, 6), (0, 90)]) m' Q)) ?_ (fun _ _ h => h)
                                generalize hQ1 : (fun v m' => zW E (d) 146 95 [(2, 69), (0, a0), (0, a1), (0, a2), (0, a3), (0, a4), (0, 0), (9, 0)] (if v.1 = 9 then [(0, 6), (0, 90)] else v :: [(0, 6), (0, 90)]) m' Q) = Q1
                                show zW E (d - 1) 142 0 [(2, 69)] [] m0 Q1
                                refine zw_7 zr_142_0 rfl ?_
                                refine zw_46r (s := 70) zr_142_1 rfl rfl rfl rfl ?_
                                refine zw_push zr_142_4 ?_
                                refine zw_48k (c := 70) (len := 826) zr_142_7 rfl rfl (by omega) (by omega) (show (823 : Int).toNat = 823 by omega) hg1 ?_
                                refine zw_R zr_142_8 (by decide) zm_142 (v := (0, g1)) rfl ?_
                                rw [← hQ1]
                                show zW E (d) 146 95 [(2, 69), (0, a0), (0, a1), (0, a2), (0, a3), (0, a4), (0, 0), (9, 0)] [(0, g1), (0, 6), (0, 90)] m0 Q
                                refine zw_18 zr_146_95 (by omega) ?_
                                refine zw_16 zr_146_96 (by omega) ?_
                                refine zw_10 (L' := [(2, 69), (0, a0), (0, a1), (0, a2), (0, a3), (0, a4), (0, 0), (0, (90 + (6 * g1)))]) zr_146_97 (Nat.le_of_ble_eq_true rfl) rfl ?_
                                refine zw_7 zr_146_99 rfl ?_
                                refine zw_46r (s := 70) zr_146_100 rfl rfl rfl rfl ?_
                                refine zw_4 zr_146_103 rfl ?_
                                refine zw_push zr_146_105 ?_
                                refine zw_16 zr_146_106 (by omega) ?_
                                refine zw_3 zr_146_107 rfl ?_
                                refine zw_49 (c := 70) (len := 826) zr_146_108 rfl rfl (by omega) (by omega) ?_
                                intro m145 em145
                                have hIm145 : zInv m145 := by rw [em145]; exact iu_70_m0 hI0 (by omega) (by omega)
                                have hFm145 : zFr W_146 m0 m145 := by rw [em145]; exact hF0.any rfl
                                have km145_70_822 : m145 70 822 = g0 := by rw [em145, zUp_ne (by omega)]; exact hg0
                                have km145_70_823 : m145 70 823 = g1 := by rw [em145, zUp_ne (by omega)]; exact hg1
                                have km145_70_90 : m145 70 90 = a0 := by rw [em145, show (((90 + (6 * g1)) + 0) : Int).toNat = 90 by omega]; exact zUp_eq _ _ _ _
                                have fm145_70 : m145 70 = zPt F70 ((((90 + (6 * g1)) + 0)).toNat) a0 := by rw [em145]; exact (zUp_ff (m := m0)).trans (congrArg (fun q => zPt q ((((90 + (6 * g1)) + 0)).toNat) a0) hG70)
                                clear em145
                                refine zw_7 zr_146_109 rfl ?_
                                refine zw_46r (s := 70) zr_146_110 rfl rfl rfl rfl ?_
                                refine zw_4 zr_146_113 rfl ?_
                                refine zw_push zr_146_115 ?_
                                refine zw_16 zr_146_116 (by omega) ?_
                                refine zw_3 zr_146_117 rfl ?_
                                refine zw_49 (c := 70) (len := 826) zr_146_118 rfl rfl (by omega) (by omega) ?_
                                intro m146 em146
                                have hIm146 : zInv m146 := by rw [em146]; exact iu_70_m1 hIm145 (by omega) (by omega)
                                have hFm146 : zFr W_146 m0 m146 := by rw [em146]; exact hFm145.any rfl
                                have km146_70_822 : m146 70 822 = g0 := by rw [em146, zUp_ne (by omega)]; exact km145_70_822
                                have km146_70_823 : m146 70 823 = g1 := by rw [em146, zUp_ne (by omega)]; exact km145_70_823
                                have km146_70_90 : m146 70 90 = a0 := by rw [em146, zUp_ne (by omega)]; exact km145_70_90
                                have km146_70_91 : m146 70 91 = a1 := by rw [em146, show (((90 + (6 * g1)) + 1) : Int).toNat = 91 by omega]; exact zUp_eq _ _ _ _
                                have fm146_70 : m146 70 = zPt (zPt F70 ((((90 + (6 * g1)) + 0)).toNat) a0) ((((90 + (6 * g1)) + 1)).toNat) a1 := by rw [em146]; exact (zUp_ff (m := m145)).trans (congrArg (fun q => zPt q ((((90 + (6 * g1)) + 1)).toNat) a1) fm145_70)
                                clear em146
                                refine zw_7 zr_146_119 rfl ?_
                                refine zw_46r (s := 70) zr_146_120 rfl rfl rfl rfl ?_
                                refine zw_4 zr_146_123 rfl ?_
                                refine zw_push zr_146_125 ?_
                                refine zw_16 zr_146_126 (by omega) ?_
                                refine zw_3 zr_146_127 rfl ?_
                                refine zw_49 (c := 70) (len := 826) zr_146_128 rfl rfl (by omega) (by omega) ?_
                                intro m147 em147
                                have hIm147 : zInv m147 := by rw [em147]; exact iu_70_m2 hIm146 (by omega) (by omega)
                                have hFm147 : zFr W_146 m0 m147 := by rw [em147]; exact hFm146.any rfl
                                have km147_70_822 : m147 70 822 = g0 := by rw [em147, zUp_ne (by omega)]; exact km146_70_822
                                have km147_70_823 : m147 70 823 = g1 := by rw [em147, zUp_ne (by omega)]; exact km146_70_823
                                have km147_70_90 : m147 70 90 = a0 := by rw [em147, zUp_ne (by omega)]; exact km146_70_90
                                have km147_70_91 : m147 70 91 = a1 := by rw [em147, zUp_ne (by omega)]; exact km146_70_91
                                have km147_70_92 : m147 70 92 = a2 := by rw [em147, show (((90 + (6 * g1)) + 2) : Int).toNat = 92 by omega]; exact zUp_eq _ _ _ _
                                have fm147_70 : m147 70 = zPt (zPt (zPt F70 ((((90 + (6 * g1)) + 0)).toNat) a0) ((((90 + (6 * g1)) + 1)).toNat) a1) ((((90 + (6 * g1)) + 2)).toNat) a2 := by rw [em147]; exact (zUp_ff (m := m146)).trans (congrArg (fun q => zPt q ((((90 + (6 * g1)) + 2)).toNat) a2) fm146_70)
                                clear em147
                                refine zw_7 zr_146_129 rfl ?_
                                refine zw_46r (s := 70) zr_146_130 rfl rfl rfl rfl ?_
                                refine zw_4 zr_146_133 rfl ?_
                                refine zw_push zr_146_135 ?_
                                refine zw_16 zr_146_136 (by omega) ?_
                                refine zw_4 zr_146_137 rfl ?_
                                refine zw_49 (c := 70) (len := 826) zr_146_139 rfl rfl (by omega) (by omega) ?_
                                intro m148 em148
                                have hIm148 : zInv m148 := by rw [em148]; exact iu_70_m3 hIm147 (by omega) (by omega)
                                have hFm148 : zFr W_146 m0 m148 := by rw [em148]; exact hFm147.any rfl
                                have km148_70_822 : m148 70 822 = g0 := by rw [em148, zUp_ne (by omega)]; exact km147_70_822
                                have km148_70_823 : m148 70 823 = g1 := by rw [em148, zUp_ne (by omega)]; exact km147_70_823
                                have km148_70_90 : m148 70 90 = a0 := by rw [em148, zUp_ne (by omega)]; exact km147_70_90
                                have km148_70_91 : m148 70 91 = a1 := by rw [em148, zUp_ne (by omega)]; exact km147_70_91
                                have km148_70_92 : m148 70 92 = a2 := by rw [em148, zUp_ne (by omega)]; exact km147_70_92
                                have km148_70_93 : m148 70 93 = a3 := by rw [em148, show (((90 + (6 * g1)) + 3) : Int).toNat = 93 by omega]; exact zUp_eq _ _ _ _
                                have fm148_70 : m148 70 = zPt (zPt (zPt (zPt F70 ((((90 + (6 * g1)) + 0)).toNat) a0) ((((90 + (6 * g1)) + 1)).toNat) a1) ((((90 + (6 * g1)) + 2)).toNat) a2) ((((90 + (6 * g1)) + 3)).toNat) a3 := by rw [em148]; exact (zUp_ff (m := m147)).trans (congrArg (fun q => zPt q ((((90 + (6 * g1)) + 3)).toNat) a3) fm147_70)
                                clear em148
                                refine zw_7 zr_146_140 rfl ?_
                                refine zw_46r (s := 70) zr_146_141 rfl rfl rfl rfl ?_
                                refine zw_4 zr_146_144 rfl ?_
                                refine zw_push zr_146_146 ?_
                                refine zw_16 zr_146_147 (by omega) ?_
                                refine zw_4 zr_146_148 rfl ?_
                                refine zw_40_1 zr_146_150 ?_ ?_
                                · intro h149
                                  refine zw_push zr_146_157 ?_
                                  refine zw_49 (c := 70) (len := 826) zr_146_158 rfl rfl (by omega) (by omega) ?_
                                  intro m150 em150
                                  have hIm150 : zInv m150 := by rw [em150]; exact iu_70_m4 hIm148 (by omega) (by omega)
                                  have hFm150 : zFr W_146 m0 m150 := by rw [em150]; exact hFm148.any rfl
                                  have km150_70_822 : m150 70 822 = g0 := by rw [em150, zUp_ne (by omega)]; exact km148_70_822
                                  have km150_70_823 : m150 70 823 = g1 := by rw [em150, zUp_ne (by omega)]; exact km148_70_823
                                  have km150_70_90 : m150 70 90 = a0 := by rw [em150, zUp_ne (by omega)]; exact km148_70_90
                                  have km150_70_91 : m150 70 91 = a1 := by rw [em150, zUp_ne (by omega)]; exact km148_70_91
                                  have km150_70_92 : m150 70 92 = a2 := by rw [em150, zUp_ne (by omega)]; exact km148_70_92
                                  have km150_70_93 : m150 70 93 = a3 := by rw [em150, zUp_ne (by omega)]; exact km148_70_93
                                  have km150_70_94 : m150 70 94 = 0 := by rw [em150, show (((90 + (6 * g1)) + 4) : Int).toNat = 94 by omega]; exact zUp_eq _ _ _ _
                                  have fm150_70 : m150 70 = zPt (zPt (zPt (zPt (zPt F70 ((((90 + (6 * g1)) + 0)).toNat) a0) ((((90 + (6 * g1)) + 1)).toNat) a1) ((((90 + (6 * g1)) + 2)).toNat) a2) ((((90 + (6 * g1)) + 3)).toNat) a3) ((((90 + (6 * g1)) + 4)).toNat) 0 := by rw [em150]; exact (zUp_ff (m := m148)).trans (congrArg (fun q => zPt q ((((90 + (6 * g1)) + 4)).toNat) 0) fm148_70)
                                  clear em150
                                  refine zw_7 zr_146_159 rfl ?_
                                  refine zw_46r (s := 70) zr_146_160 rfl rfl rfl rfl ?_
                                  refine zw_4 zr_146_163 rfl ?_
                                  refine zw_push zr_146_165 ?_
                                  refine zw_16 zr_146_166 (by omega) ?_
                                  refine zw_push zr_146_167 ?_
                                  refine zw_49 (c := 70) (len := 826) zr_146_168 rfl rfl (by omega) (by omega) ?_
                                  intro m151 em151
                                  have hIm151 : zInv m151 := by rw [em151]; exact iu_70_m5 hIm150 (by omega) (by omega)
                                  have hFm151 : zFr W_146 m0 m151 := by rw [em151]; exact hFm150.any rfl
                                  have km151_70_822 : m151 70 822 = g0 := by rw [em151, zUp_ne (by omega)]; exact km150_70_822
                                  have km151_70_823 : m151 70 823 = g1 := by rw [em151, zUp_ne (by omega)]; exact km150_70_823
                                  have km151_70_90 : m151 70 90 = a0 := by rw [em151, zUp_ne (by omega)]; exact km150_70_90
                                  have km151_70_91 : m151 70 91 = a1 := by rw [em151, zUp_ne (by omega)]; exact km150_70_91
                                  have km151_70_92 : m151 70 92 = a2 := by rw [em151, zUp_ne (by omega)]; exact km150_70_92
                                  have km151_70_93 : m151 70 93 = a3 := by rw [em151, zUp_ne (by omega)]; exact km150_70_93
                                  have km151_70_94 : m151 70 94 = 0 := by rw [em151, zUp_ne (by omega)]; exact km150_70_94
                                  have km151_70_95 : m151 70 95 = 0 := by rw [em151, show (((90 + (6 * g1)) + 5) : Int).toNat = 95 by omega]; exact zUp_eq _ _ _ _
                                  have fm151_70 : m151 70 = zPt (zPt (zPt (zPt (zPt (zPt F70 ((((90 + (6 * g1)) + 0)).toNat) a0) ((((90 + (6 * g1)) + 1)).toNat) a1) ((((90 + (6 * g1)) + 2)).toNat) a2) ((((90 + (6 * g1)) + 3)).toNat) a3) ((((90 + (6 * g1)) + 4)).toNat) 0) ((((90 + (6 * g1)) + 5)).toNat) 0 := by rw [em151]; exact (zUp_ff (m := m150)).trans (congrArg (fun q => zPt q ((((90 + (6 * g1)) + 5)).toNat) 0) fm150_70)
                                  clear em151
                                  refine zw_7 zr_146_169 rfl ?_
                                  refine zw_46r (s := 70) zr_146_170 rfl rfl rfl rfl ?_
                                  refine zw_push zr_146_173 ?_
                                  refine zw_45 zr_146_176 ⟨rfl, rfl⟩ ?_
                                  refine zw_48k (c := 70) (len := 826) zr_146_177 rfl rfl (by omega) (by omega) (show (823 : Int).toNat = 823 by omega) km151_70_823 ?_
                                  refine zw_push zr_146_178 ?_
                                  refine zw_16 zr_146_179 (by omega) ?_
                                  refine zw_49 (c := 70) (len := 826) zr_146_180 rfl rfl (by omega) (by omega) ?_
                                  intro m152 em152
                                  have hIm152 : zInv m152 := by rw [em152]; exact iu_70_meetings hIm151 (by omega) (by omega)
                                  have hFm152 : zFr W_146 m0 m152 := by rw [em152]; exact hFm151.any rfl
                                  have km152_70_822 : m152 70 822 = g0 := by rw [em152, zUp_ne (by omega)]; exact km151_70_822
                                  have km152_70_90 : m152 70 90 = a0 := by rw [em152, zUp_ne (by omega)]; exact km151_70_90
                                  have km152_70_91 : m152 70 91 = a1 := by rw [em152, zUp_ne (by omega)]; exact km151_70_91
                                  have km152_70_92 : m152 70 92 = a2 := by rw [em152, zUp_ne (by omega)]; exact km151_70_92
                                  have km152_70_93 : m152 70 93 = a3 := by rw [em152, zUp_ne (by omega)]; exact km151_70_93
                                  have km152_70_94 : m152 70 94 = 0 := by rw [em152, zUp_ne (by omega)]; exact km151_70_94
                                  have km152_70_95 : m152 70 95 = 0 := by rw [em152, zUp_ne (by omega)]; exact km151_70_95
                                  have km152_70_823 : m152 70 823 = (g1 + 1) := by rw [em152, show (823 : Int).toNat = 823 by omega]; exact zUp_eq _ _ _ _
                                  have fm152_70 : m152 70 = zPt (zPt (zPt (zPt (zPt (zPt (zPt F70 ((((90 + (6 * g1)) + 0)).toNat) a0) ((((90 + (6 * g1)) + 1)).toNat) a1) ((((90 + (6 * g1)) + 2)).toNat) a2) ((((90 + (6 * g1)) + 3)).toNat) a3) ((((90 + (6 * g1)) + 4)).toNat) 0) ((((90 + (6 * g1)) + 5)).toNat) 0) 823 ((g1 + 1)) := by rw [em152]; exact (zUp_ff (m := m151)).trans (congrArg (fun q => zPt q 823 ((g1 + 1))) fm151_70)
                                  clear em152
                                  refine zw_7 zr_146_181 rfl ?_
                                  refine zw_C zr_146_182 (Or.inl rfl) zm_142 rfl rfl ⟨Nat.le_of_ble_eq_true rfl, Nat.le_of_ble_eq_true rfl, Nat.le_of_ble_eq_true rfl, rfl, by decide⟩ (by omega) (P := (fun v m' => zW E (d) 146 185 [(2, 69), (0, a0), (0, a1), (0, a2), (0, a3), (0, a4), (0, 0), (0, (90 + (6 * g1)))] (if v.1 = 9 then [] else v :: []) m' Q)) ?_ (fun _ _ h => h)
                                  generalize hQ1 : (fun v m' => zW E (d) 146 185 [(2, 69), (0, a0), (0, a1), (0, a2), (0, a3), (0, a4), (0, 0), (0, (90 + (6 * g1)))] (if v.1 = 9 then [] else v :: []) m' Q) = Q1
                                  show zW E (d - 1) 142 0 [(2, 69)] [] m152 Q1
                                  refine zw_7 zr_142_0 rfl ?_
                                  refine zw_46r (s := 70) zr_142_1 rfl rfl rfl rfl ?_
                                  refine zw_push zr_142_4 ?_
                                  refine zw_48k (c := 70) (len := 826) zr_142_7 rfl rfl (by omega) (by omega) (show (823 : Int).toNat = 823 by omega) km152_70_823 ?_
                                  refine zw_R zr_142_8 (by decide) zm_142 (v := (0, (g1 + 1))) rfl ?_
                                  rw [← hQ1]
                                  show zW E (d) 146 185 [(2, 69), (0, a0), (0, a1), (0, a2), (0, a3), (0, a4), (0, 0), (0, (90 + (6 * g1)))] [(0, (g1 + 1))] m152 Q
                                  refine zw_push zr_146_185 ?_
                                  refine zw_17 zr_146_186 (by omega) ?_
                                  refine zw_R zr_146_187 (by decide) zm_146 (v := (0, ((g1 + 1) - 1))) rfl ?_
                                  rw [← hQ]; exact ⟨_, rfl, by omega, by omega, hIm152, hFm152, by omega, by rw [fm152_70]; first | exact (if_neg (by omega)).symm | exact (if_pos (by omega)).symm | (rw [show a4 = 1 by omega]; first | exact (if_neg (by omega)).symm | exact (if_pos (by omega)).symm) | (rw [show a4 = 0 by omega]; first | exact (if_neg (by omega)).symm | exact (if_pos (by omega)).symm)⟩
                                · intro h155
                                  refine zw_push zr_146_153 ?_
                                  refine zw_42 zr_146_154 ?_
                                  refine zw_49 (c := 70) (len := 826) zr_146_158 rfl rfl (by omega) (by omega) ?_
                                  intro m156 em156
                                  have hIm156 : zInv m156 := by rw [em156]; exact iu_70_m4 hIm148 (by omega) (by omega)
                                  have hFm156 : zFr W_146 m0 m156 := by rw [em156]; exact hFm148.any rfl
                                  have km156_70_822 : m156 70 822 = g0 := by rw [em156, zUp_ne (by omega)]; exact km148_70_822
                                  have km156_70_823 : m156 70 823 = g1 := by rw [em156, zUp_ne (by omega)]; exact km148_70_823
                                  have km156_70_90 : m156 70 90 = a0 := by rw [em156, zUp_ne (by omega)]; exact km148_70_90
                                  have km156_70_91 : m156 70 91 = a1 := by rw [em156, zUp_ne (by omega)]; exact km148_70_91
                                  have km156_70_92 : m156 70 92 = a2 := by rw [em156, zUp_ne (by omega)]; exact km148_70_92
                                  have km156_70_93 : m156 70 93 = a3 := by rw [em156, zUp_ne (by omega)]; exact km148_70_93
                                  have km156_70_94 : m156 70 94 = 1 := by rw [em156, show (((90 + (6 * g1)) + 4) : Int).toNat = 94 by omega]; exact zUp_eq _ _ _ _
                                  have fm156_70 : m156 70 = zPt (zPt (zPt (zPt (zPt F70 ((((90 + (6 * g1)) + 0)).toNat) a0) ((((90 + (6 * g1)) + 1)).toNat) a1) ((((90 + (6 * g1)) + 2)).toNat) a2) ((((90 + (6 * g1)) + 3)).toNat) a3) ((((90 + (6 * g1)) + 4)).toNat) 1 := by rw [em156]; exact (zUp_ff (m := m148)).trans (congrArg (fun q => zPt q ((((90 + (6 * g1)) + 4)).toNat) 1) fm148_70)
                                  clear em156
                                  refine zw_7 zr_146_159 rfl ?_
                                  refine zw_46r (s := 70) zr_146_160 rfl rfl rfl rfl ?_
                                  refine zw_4 zr_146_163 rfl ?_
                                  refine zw_push zr_146_165 ?_
                                  refine zw_16 zr_146_166 (by omega) ?_
                                  refine zw_push zr_146_167 ?_
                                  refine zw_49 (c := 70) (len := 826) zr_146_168 rfl rfl (by omega) (by omega) ?_
                                  intro m157 em157
                                  have hIm157 : zInv m157 := by rw [em157]; exact iu_70_m5 hIm156 (by omega) (by omega)
                                  have hFm157 : zFr W_146 m0 m157 := by rw [em157]; exact hFm156.any rfl
                                  have km157_70_822 : m157 70 822 = g0 := by rw [em157, zUp_ne (by omega)]; exact km156_70_822
                                  have km157_70_823 : m157 70 823 = g1 := by rw [em157, zUp_ne (by omega)]; exact km156_70_823
                                  have km157_70_90 : m157 70 90 = a0 := by rw [em157, zUp_ne (by omega)]; exact km156_70_90
                                  have km157_70_91 : m157 70 91 = a1 := by rw [em157, zUp_ne (by omega)]; exact km156_70_91
                                  have km157_70_92 : m157 70 92 = a2 := by rw [em157, zUp_ne (by omega)]; exact km156_70_92
                                  have km157_70_93 : m157 70 93 = a3 := by rw [em157, zUp_ne (by omega)]; exact km156_70_93
                                  have km157_70_94 : m157 70 94 = 1 := by rw [em157, zUp_ne (by omega)]; exact km156_70_94
                                  have km157_70_95 : m157 70 95 = 0 := by rw [em157, show (((90 + (6 * g1)) + 5) : Int).toNat = 95 by omega]; exact zUp_eq _ _ _ _
                                  have fm157_70 : m157 70 = zPt (zPt (zPt (zPt (zPt (zPt F70 ((((90 + (6 * g1)) + 0)).toNat) a0) ((((90 + (6 * g1)) + 1)).toNat) a1) ((((90 + (6 * g1)) + 2)).toNat) a2) ((((90 + (6 * g1)) + 3)).toNat) a3) ((((90 + (6 * g1)) + 4)).toNat) 1) ((((90 + (6 * g1)) + 5)).toNat) 0 := by rw [em157]; exact (zUp_ff (m := m156)).trans (congrArg (fun q => zPt q ((((90 + (6 * g1)) + 5)).toNat) 0) fm156_70)
                                  clear em157
                                  refine zw_7 zr_146_169 rfl ?_
                                  refine zw_46r (s := 70) zr_146_170 rfl rfl rfl rfl ?_
                                  refine zw_push zr_146_173 ?_
                                  refine zw_45 zr_146_176 ⟨rfl, rfl⟩ ?_
                                  refine zw_48k (c := 70) (len := 826) zr_146_177 rfl rfl (by omega) (by omega) (show (823 : Int).toNat = 823 by omega) km157_70_823 ?_
                                  refine zw_push zr_146_178 ?_
                                  refine zw_16 zr_146_179 (by omega) ?_
                                  refine zw_49 (c := 70) (len := 826) zr_146_180 rfl rfl (by omega) (by omega) ?_
                                  intro m158 em158
                                  have hIm158 : zInv m158 := by rw [em158]; exact iu_70_meetings hIm157 (by omega) (by omega)
                                  have hFm158 : zFr W_146 m0 m158 := by rw [em158]; exact hFm157.any rfl
                                  have km158_70_822 : m158 70 822 = g0 := by rw [em158, zUp_ne (by omega)]; exact km157_70_822
                                  have km158_70_90 : m158 70 90 = a0 := by rw [em158, zUp_ne (by omega)]; exact km157_70_90
                                  have km158_70_91 : m158 70 91 = a1 := by rw [em158, zUp_ne (by omega)]; exact km157_70_91
                                  have km158_70_92 : m158 70 92 = a2 := by rw [em158, zUp_ne (by omega)]; exact km157_70_92
                                  have km158_70_93 : m158 70 93 = a3 := by rw [em158, zUp_ne (by omega)]; exact km157_70_93
                                  have km158_70_94 : m158 70 94 = 1 := by rw [em158, zUp_ne (by omega)]; exact km157_70_94
                                  have km158_70_95 : m158 70 95 = 0 := by rw [em158, zUp_ne (by omega)]; exact km157_70_95
                                  have km158_70_823 : m158 70 823 = (g1 + 1) := by rw [em158, show (823 : Int).toNat = 823 by omega]; exact zUp_eq _ _ _ _
                                  have fm158_70 : m158 70 = zPt (zPt (zPt (zPt (zPt (zPt (zPt F70 ((((90 + (6 * g1)) + 0)).toNat) a0) ((((90 + (6 * g1)) + 1)).toNat) a1) ((((90 + (6 * g1)) + 2)).toNat) a2) ((((90 + (6 * g1)) + 3)).toNat) a3) ((((90 + (6 * g1)) + 4)).toNat) 1) ((((90 + (6 * g1)) + 5)).toNat) 0) 823 ((g1 + 1)) := by rw [em158]; exact (zUp_ff (m := m157)).trans (congrArg (fun q => zPt q 823 ((g1 + 1))) fm157_70)
                                  clear em158
                                  refine zw_7 zr_146_181 rfl ?_
                                  refine zw_C zr_146_182 (Or.inl rfl) zm_142 rfl rfl ⟨Nat.le_of_ble_eq_true rfl, Nat.le_of_ble_eq_true rfl, Nat.le_of_ble_eq_true rfl, rfl, by decide⟩ (by omega) (P := (fun v m' => zW E (d) 146 185 [(2, 69), (0, a0), (0, a1), (0, a2), (0, a3), (0, a4), (0, 0), (0, (90 + (6 * g1)))] (if v.1 = 9 then [] else v :: []) m' Q)) ?_ (fun _ _ h => h)
                                  generalize hQ1 : (fun v m' => zW E (d) 146 185 [(2, 69), (0, a0), (0, a1), (0, a2), (0, a3), (0, a4), (0, 0), (0, (90 + (6 * g1)))] (if v.1 = 9 then [] else v :: []) m' Q) = Q1
                                  show zW E (d - 1) 142 0 [(2, 69)] [] m158 Q1
                                  refine zw_7 zr_142_0 rfl ?_
                                  refine zw_46r (s := 70) zr_142_1 rfl rfl rfl rfl ?_
                                  refine zw_push zr_142_4 ?_
                                  refine zw_48k (c := 70) (len := 826) zr_142_7 rfl rfl (by omega) (by omega) (show (823 : Int).toNat = 823 by omega) km158_70_823 ?_
                                  refine zw_R zr_142_8 (by decide) zm_142 (v := (0, (g1 + 1))) rfl ?_
                                  rw [← hQ1]
                                  show zW E (d) 146 185 [(2, 69), (0, a0), (0, a1), (0, a2), (0, a3), (0, a4), (0, 0), (0, (90 + (6 * g1)))] [(0, (g1 + 1))] m158 Q
                                  refine zw_push zr_146_185 ?_
                                  refine zw_17 zr_146_186 (by omega) ?_
                                  refine zw_R zr_146_187 (by decide) zm_146 (v := (0, ((g1 + 1) - 1))) rfl ?_
                                  rw [← hQ]; exact ⟨_, rfl, by omega, by omega, hIm158, hFm158, by omega, by rw [fm158_70]; first | exact (if_neg (by omega)).symm | exact (if_pos (by omega)).symm | (rw [show a4 = 1 by omega]; first | exact (if_neg (by omega)).symm | exact (if_pos (by omega)).symm) | (rw [show a4 = 0 by omega]; first | exact (if_neg (by omega)).symm | exact (if_pos (by omega)).symm)⟩
                              · intro h161; omega
                            · intro h162; omega
