abbrev W_186 : List (Nat × Nat) := [(80, 1000)]
set_option maxHeartbeats 8000000 in
theorem th_186 {E : zE} {d : Nat} {m0 : zM} {a0 : Int} {a1 : Int} {a2 : Int} (hd : 4 ≤ d) (hI0 : zInv m0) (ha0 : (-2147483648) ≤ a0 ∧ a0 ≤ 2147483647) (ha1 : (-2147483648) ≤ a1 ∧ a1 ≤ 2147483647) (ha2 : (-2147483648) ≤ a2 ∧ a2 ≤ 2147483647) : zC E d 186 [(2, 69), (0, a0), (0, a1), (0, a2)] m0 (fun v m' => ∃ r : Int, v = (0, r) ∧ (-2147483648) ≤ r ∧ r ≤ 2147483647 ∧ zInv m' ∧ zFr W_186 m0 m') := by
  have hF0 : zFr W_186 m0 m0 := zFr.rfl
  generalize hQ : (fun (v : zV) (m' : zM) => ∃ r : Int, v = (0, r) ∧ (-2147483648) ≤ r ∧ r ≤ 2147483647 ∧ zInv m' ∧ zFr W_186 m0 m') = Q
  show zW E d 186 0 [(2, 69), (0, a0), (0, a1), (0, a2)] [] m0 Q
  refine zw_7 zr_186_0 rfl ?_
  refine zw_3 zr_186_1 rfl ?_
  refine zw_C zr_186_2 (Or.inl rfl) zm_143 rfl rfl ⟨Nat.le_of_ble_eq_true rfl, Nat.le_of_ble_eq_true rfl, Nat.le_of_ble_eq_true rfl, rfl, by decide⟩ (by omega) (P := (fun v m' => zW E (d) 186 5 [(2, 69), (0, a0), (0, a1), (0, a2)] (if v.1 = 9 then [] else v :: []) m' Q)) ?_ (fun _ _ h => h)
  generalize hQ1 : (fun v m' => zW E (d) 186 5 [(2, 69), (0, a0), (0, a1), (0, a2)] (if v.1 = 9 then [] else v :: []) m' Q) = Q1
  show zW E (d - 1) 143 0 [(2, 69), (0, a0)] [] m0 Q1
  refine zw_3 zr_143_0 rfl ?_
  refine zw_36 zr_143_1 ?_
  refine zw_push zr_143_2 ?_
  refine zw_7 zr_143_3 rfl ?_
  refine zw_C zr_143_4 (Or.inl rfl) zm_141 rfl rfl ⟨Nat.le_of_ble_eq_true rfl, Nat.le_of_ble_eq_true rfl, Nat.le_of_ble_eq_true rfl, rfl, by decide⟩ (by omega) (P := (fun v m' => zW E (d - 1) 143 7 [(2, 69), (0, a0)] (if v.1 = 9 then [(1, 0), (1, a0)] else v :: [(1, 0), (1, a0)]) m' Q1)) ?_ (fun _ _ h => h)
  generalize hQ2 : (fun v m' => zW E (d - 1) 143 7 [(2, 69), (0, a0)] (if v.1 = 9 then [(1, 0), (1, a0)] else v :: [(1, 0), (1, a0)]) m' Q1) = Q2
  show zW E (d - 1 - 1) 141 0 [(2, 69)] [] m0 Q2
  refine zw_7 zr_141_0 rfl ?_
  refine zw_46r (s := 70) zr_141_1 rfl rfl rfl rfl ?_
  refine zw_push zr_141_4 ?_
  obtain ⟨f1, ef1⟩ : ∃ v, m0 70 822 = v := ⟨_, rfl⟩
  have bf1 : 0 ≤ m0 70 822 ∧ m0 70 822 ≤ 10 := ib_70_players hI0 (by omega)
  rw [ef1] at bf1
  refine zw_48k (c := 70) (len := 826) zr_141_7 rfl rfl (by omega) (by omega) (show (822 : Int).toNat = 822 by omega) ef1 ?_
  refine zw_R zr_141_8 (by decide) zm_141 (v := (0, f1)) rfl ?_
  rw [← hQ2]
  show zW E (d - 1) 143 7 [(2, 69), (0, a0)] [(0, f1), (1, 0), (1, a0)] m0 Q1
  refine zw_push zr_143_7 ?_
  refine zw_17 zr_143_8 (by omega) ?_
  refine zw_36 zr_143_9 ?_
  refine zw_C zr_143_10 (Or.inr rfl) zm_140 rfl rfl ⟨Nat.le_of_ble_eq_true rfl, Nat.le_of_ble_eq_true rfl, Nat.le_of_ble_eq_true rfl, rfl, by decide⟩ (by omega) (P := (fun v m' => zW E (d - 1) 143 13 [(2, 69), (0, a0)] (if v.1 = 9 then [] else v :: []) m' Q1)) ?_ (fun _ _ h => h)
  generalize hQ2 : (fun v m' => zW E (d - 1) 143 13 [(2, 69), (0, a0)] (if v.1 = 9 then [] else v :: []) m' Q1) = Q2
  show zW E (d - 1 - 1) 140 0 [(1, a0), (9, 0), (1, 0), (9, 0), (1, (f1 - 1)), (9, 0)] [] m0 Q2
  refine zw_5 zr_140_0 rfl ?_
  refine zw_5 zr_140_1 rfl ?_
  refine zw_39_0 zr_140_2 zr_140_3 ?_ ?_
  · intro h2
    refine zw_push zr_140_17 ?_
    refine zw_R zr_140_18 (by decide) zm_140 (v := (0, 0)) (zRetB (by omega)) ?_
    rw [← hQ2]
    show zW E (d - 1) 143 13 [(2, 69), (0, a0)] [(0, 0)] m0 Q1
    refine zw_R zr_143_13 (by decide) zm_143 (v := (0, 0)) (zRetB (by omega)) ?_
    rw [← hQ1]
    show zW E (d) 186 5 [(2, 69), (0, a0), (0, a1), (0, a2)] [(0, 0)] m0 Q
    refine zw_40_1 zr_186_5 ?_ ?_
    · intro h3
      refine zw_push zr_186_31 ?_
      refine zw_R zr_186_33 (by decide) zm_186 (v := (0, (-100000))) rfl ?_
      rw [← hQ]; exact ⟨_, rfl, by omega, by omega, hI0, hF0⟩
    · intro h4; omega
  · intro h5
    refine zw_5 zr_140_6 rfl ?_
    refine zw_6 zr_140_7 rfl ?_
    refine zw_39_2 zr_140_9 zr_140_10 ?_ ?_
    · intro h6
      refine zw_push zr_140_17 ?_
      refine zw_R zr_140_18 (by decide) zm_140 (v := (0, 0)) (zRetB (by omega)) ?_
      rw [← hQ2]
      show zW E (d - 1) 143 13 [(2, 69), (0, a0)] [(0, 0)] m0 Q1
      refine zw_R zr_143_13 (by decide) zm_143 (v := (0, 0)) (zRetB (by omega)) ?_
      rw [← hQ1]
      show zW E (d) 186 5 [(2, 69), (0, a0), (0, a1), (0, a2)] [(0, 0)] m0 Q
      refine zw_40_1 zr_186_5 ?_ ?_
      · intro h7
        refine zw_push zr_186_31 ?_
        refine zw_R zr_186_33 (by decide) zm_186 (v := (0, (-100000))) rfl ?_
        rw [← hQ]; exact ⟨_, rfl, by omega, by omega, hI0, hF0⟩
      · intro h8; omega
    · intro h9
      refine zw_push zr_140_13 ?_
      refine zw_42 zr_140_14 ?_
      refine zw_R zr_140_18 (by decide) zm_140 (v := (0, 1)) (zRetB (by omega)) ?_
      rw [← hQ2]
      show zW E (d - 1) 143 13 [(2, 69), (0, a0)] [(0, 1)] m0 Q1
      refine zw_R zr_143_13 (by decide) zm_143 (v := (0, 1)) (zRetB (by omega)) ?_
      rw [← hQ1]
      show zW E (d) 186 5 [(2, 69), (0, a0), (0, a1), (0, a2)] [(0, 1)] m0 Q
      refine zw_40_1 zr_186_5 ?_ ?_
      · intro h10; omega
      · intro h11
        refine zw_7 zr_186_8 rfl ?_
        refine zw_3 zr_186_9 rfl ?_
        refine zw_C zr_186_10 (Or.inl rfl) zm_143 rfl rfl ⟨Nat.le_of_ble_eq_true rfl, Nat.le_of_ble_eq_true rfl, Nat.le_of_ble_eq_true rfl, rfl, by decide⟩ (by omega) (P := (fun v m' => zW E (d) 186 13 [(2, 69), (0, a0), (0, a1), (0, a2)] (if v.1 = 9 then [] else v :: []) m' Q)) ?_ (fun _ _ h => h)
        generalize hQ1 : (fun v m' => zW E (d) 186 13 [(2, 69), (0, a0), (0, a1), (0, a2)] (if v.1 = 9 then [] else v :: []) m' Q) = Q1
        show zW E (d - 1) 143 0 [(2, 69), (0, a1)] [] m0 Q1
        refine zw_3 zr_143_0 rfl ?_
        refine zw_36 zr_143_1 ?_
        refine zw_push zr_143_2 ?_
        refine zw_7 zr_143_3 rfl ?_
        refine zw_C zr_143_4 (Or.inl rfl) zm_141 rfl rfl ⟨Nat.le_of_ble_eq_true rfl, Nat.le_of_ble_eq_true rfl, Nat.le_of_ble_eq_true rfl, rfl, by decide⟩ (by omega) (P := (fun v m' => zW E (d - 1) 143 7 [(2, 69), (0, a1)] (if v.1 = 9 then [(1, 0), (1, a1)] else v :: [(1, 0), (1, a1)]) m' Q1)) ?_ (fun _ _ h => h)
        generalize hQ2 : (fun v m' => zW E (d - 1) 143 7 [(2, 69), (0, a1)] (if v.1 = 9 then [(1, 0), (1, a1)] else v :: [(1, 0), (1, a1)]) m' Q1) = Q2
        show zW E (d - 1 - 1) 141 0 [(2, 69)] [] m0 Q2
        refine zw_7 zr_141_0 rfl ?_
        refine zw_46r (s := 70) zr_141_1 rfl rfl rfl rfl ?_
        refine zw_push zr_141_4 ?_
        refine zw_48k (c := 70) (len := 826) zr_141_7 rfl rfl (by omega) (by omega) (show (822 : Int).toNat = 822 by omega) ef1 ?_
        refine zw_R zr_141_8 (by decide) zm_141 (v := (0, f1)) rfl ?_
        rw [← hQ2]
        show zW E (d - 1) 143 7 [(2, 69), (0, a1)] [(0, f1), (1, 0), (1, a1)] m0 Q1
        refine zw_push zr_143_7 ?_
        refine zw_17 zr_143_8 (by omega) ?_
        refine zw_36 zr_143_9 ?_
        refine zw_C zr_143_10 (Or.inr rfl) zm_140 rfl rfl ⟨Nat.le_of_ble_eq_true rfl, Nat.le_of_ble_eq_true rfl, Nat.le_of_ble_eq_true rfl, rfl, by decide⟩ (by omega) (P := (fun v m' => zW E (d - 1) 143 13 [(2, 69), (0, a1)] (if v.1 = 9 then [] else v :: []) m' Q1)) ?_ (fun _ _ h => h)
        generalize hQ2 : (fun v m' => zW E (d - 1) 143 13 [(2, 69), (0, a1)] (if v.1 = 9 then [] else v :: []) m' Q1) = Q2
        show zW E (d - 1 - 1) 140 0 [(1, a1), (9, 0), (1, 0), (9, 0), (1, (f1 - 1)), (9, 0)] [] m0 Q2
        refine zw_5 zr_140_0 rfl ?_
        refine zw_5 zr_140_1 rfl ?_
        refine zw_39_0 zr_140_2 zr_140_3 ?_ ?_
        · intro h12
          refine zw_push zr_140_17 ?_
          refine zw_R zr_140_18 (by decide) zm_140 (v := (0, 0)) (zRetB (by omega)) ?_
          rw [← hQ2]
          show zW E (d - 1) 143 13 [(2, 69), (0, a1)] [(0, 0)] m0 Q1
          refine zw_R zr_143_13 (by decide) zm_143 (v := (0, 0)) (zRetB (by omega)) ?_
          rw [← hQ1]
          show zW E (d) 186 13 [(2, 69), (0, a0), (0, a1), (0, a2)] [(0, 0)] m0 Q
          refine zw_40_1 zr_186_13 ?_ ?_
          · intro h13
            refine zw_push zr_186_31 ?_
            refine zw_R zr_186_33 (by decide) zm_186 (v := (0, (-100000))) rfl ?_
            rw [← hQ]; exact ⟨_, rfl, by omega, by omega, hI0, hF0⟩
          · intro h14; omega
        · intro h15
          refine zw_5 zr_140_6 rfl ?_
          refine zw_6 zr_140_7 rfl ?_
          refine zw_39_2 zr_140_9 zr_140_10 ?_ ?_
          · intro h16
            refine zw_push zr_140_17 ?_
            refine zw_R zr_140_18 (by decide) zm_140 (v := (0, 0)) (zRetB (by omega)) ?_
            rw [← hQ2]
            show zW E (d - 1) 143 13 [(2, 69), (0, a1)] [(0, 0)] m0 Q1
            refine zw_R zr_143_13 (by decide) zm_143 (v := (0, 0)) (zRetB (by omega)) ?_
            rw [← hQ1]
            show zW E (d) 186 13 [(2, 69), (0, a0), (0, a1), (0, a2)] [(0, 0)] m0 Q
            refine zw_40_1 zr_186_13 ?_ ?_
            · intro h17
              refine zw_push zr_186_31 ?_
              refine zw_R zr_186_33 (by decide) zm_186 (v := (0, (-100000))) rfl ?_
              rw [← hQ]; exact ⟨_, rfl, by omega, by omega, hI0, hF0⟩
            · intro h18; omega
          · intro h19
            refine zw_push zr_140_13 ?_
            refine zw_42 zr_140_14 ?_
            refine zw_R zr_140_18 (by decide) zm_140 (v := (0, 1)) (zRetB (by omega)) ?_
            rw [← hQ2]
            show zW E (d - 1) 143 13 [(2, 69), (0, a1)] [(0, 1)] m0 Q1
            refine zw_R zr_143_13 (by decide) zm_143 (v := (0, 1)) (zRetB (by omega)) ?_
            rw [← hQ1]
            show zW E (d) 186 13 [(2, 69), (0, a0), (0, a1), (0, a2)] [(0, 1)] m0 Q
            refine zw_40_1 zr_186_13 ?_ ?_
            · intro h20; omega
            · intro h21
              refine zw_3 zr_186_16 rfl ?_
              refine zw_3 zr_186_17 rfl ?_
              refine zw_41_1 zr_186_18 ?_ ?_
              · intro h22
                refine zw_push zr_186_31 ?_
                refine zw_R zr_186_33 (by decide) zm_186 (v := (0, (-100000))) rfl ?_
                rw [← hQ]; exact ⟨_, rfl, by omega, by omega, hI0, hF0⟩
              · intro h23
                refine zw_3 zr_186_21 rfl ?_
                refine zw_36 zr_186_22 ?_
                refine zw_push zr_186_23 ?_
                refine zw_push zr_186_24 ?_
                refine zw_C zr_186_25 (Or.inr rfl) zm_140 rfl rfl ⟨Nat.le_of_ble_eq_true rfl, Nat.le_of_ble_eq_true rfl, Nat.le_of_ble_eq_true rfl, rfl, by decide⟩ (by omega) (P := (fun v m' => zW E (d) 186 28 [(2, 69), (0, a0), (0, a1), (0, a2)] (if v.1 = 9 then [] else v :: []) m' Q)) ?_ (fun _ _ h => h)
                generalize hQ1 : (fun v m' => zW E (d) 186 28 [(2, 69), (0, a0), (0, a1), (0, a2)] (if v.1 = 9 then [] else v :: []) m' Q) = Q1
                show zW E (d - 1) 140 0 [(1, a2), (9, 0), (1, 0), (9, 0), (1, 1), (9, 0)] [] m0 Q1
                refine zw_5 zr_140_0 rfl ?_
                refine zw_5 zr_140_1 rfl ?_
                refine zw_39_0 zr_140_2 zr_140_3 ?_ ?_
                · intro h24
                  refine zw_push zr_140_17 ?_
                  refine zw_R zr_140_18 (by decide) zm_140 (v := (0, 0)) (zRetB (by omega)) ?_
                  rw [← hQ1]
                  show zW E (d) 186 28 [(2, 69), (0, a0), (0, a1), (0, a2)] [(0, 0)] m0 Q
                  refine zw_40_4 zr_186_28 ?_ ?_
                  · intro h25; omega
                  · intro h26
                    refine zw_push zr_186_31 ?_
                    refine zw_R zr_186_33 (by decide) zm_186 (v := (0, (-100000))) rfl ?_
                    rw [← hQ]; exact ⟨_, rfl, by omega, by omega, hI0, hF0⟩
                · intro h27
                  refine zw_5 zr_140_6 rfl ?_
                  refine zw_6 zr_140_7 rfl ?_
                  refine zw_39_2 zr_140_9 zr_140_10 ?_ ?_
                  · intro h28
                    refine zw_push zr_140_17 ?_
                    refine zw_R zr_140_18 (by decide) zm_140 (v := (0, 0)) (zRetB (by omega)) ?_
                    rw [← hQ1]
                    show zW E (d) 186 28 [(2, 69), (0, a0), (0, a1), (0, a2)] [(0, 0)] m0 Q
                    refine zw_40_4 zr_186_28 ?_ ?_
                    · intro h29; omega
                    · intro h30
                      refine zw_push zr_186_31 ?_
                      refine zw_R zr_186_33 (by decide) zm_186 (v := (0, (-100000))) rfl ?_
                      rw [← hQ]; exact ⟨_, rfl, by omega, by omega, hI0, hF0⟩
                  · intro h31
                    refine zw_push zr_140_13 ?_
                    refine zw_42 zr_140_14 ?_
                    refine zw_R zr_140_18 (by decide) zm_140 (v := (0, 1)) (zRetB (by omega)) ?_
                    rw [← hQ1]
                    show zW E (d) 186 28 [(2, 69), (0, a0), (0, a1), (0, a2)] [(0, 1)] m0 Q
                    refine zw_40_4 zr_186_28 ?_ ?_
                    · intro h32
                      refine zw_7 zr_186_34 rfl ?_
                      refine zw_push zr_186_35 ?_
                      refine zw_push zr_186_36 ?_
                      refine zw_push zr_186_37 ?_
                      refine zw_C zr_186_38 (Or.inl rfl) zm_184 rfl rfl ⟨Nat.le_of_ble_eq_true rfl, Nat.le_of_ble_eq_true rfl, Nat.le_of_ble_eq_true rfl, rfl, by decide⟩ (by omega) (th_184 (d := d - 1) (by omega) hI0 (a0 := (-1)) (a1 := (-1)) (a2 := (-1))      (by omega) (by omega) (by omega) ) ?_
                      rintro _ m33 ⟨r34, rfl, hr34a, hr34b, hIm33, gm33⟩
                      have hFm33 : zFr W_186 m0 m33 := hF0.trans gm33 rfl
                      have km33_70_822 : m33 70 822 = f1 := (gm33 70 822 rfl).trans ef1
                      show zW E (d) 186 41 [(2, 69), (0, a0), (0, a1), (0, a2)] [(0, r34)] m33 Q
                      refine zw_40_4 zr_186_41 ?_ ?_
                      · intro h35
                        refine zw_7 zr_186_47 rfl ?_
                        refine zw_46r (s := 80) zr_186_48 rfl rfl rfl rfl ?_
                        refine zw_push zr_186_51 ?_
                        refine zw_3 zr_186_53 rfl ?_
                        refine zw_18 zr_186_54 (by omega) ?_
                        refine zw_3 zr_186_55 rfl ?_
                        refine zw_16 zr_186_56 (by omega) ?_
                        refine zw_48 (c := 80) (len := 100) zr_186_57 rfl rfl (by omega) (by omega) ?_
                        intro x36 ex36
                        have bx36 := hIm33.ra (c := 80) (len := 100) (k := (((10 * a1) + a0)).toNat) rfl (by omega)
                        rw [← ex36] at bx36
                        refine zw_push zr_186_58 ?_
                        refine zw_41_4 zr_186_60 ?_ ?_
                        · intro h37
                          refine zw_3 zr_186_66 rfl ?_
                          refine zw_40_4 zr_186_67 ?_ ?_
                          · intro h38
                            refine zw_7 zr_186_85 rfl ?_
                            refine zw_46r (s := 80) zr_186_86 rfl rfl rfl rfl ?_
                            refine zw_push zr_186_89 ?_
                            refine zw_3 zr_186_91 rfl ?_
                            refine zw_18 zr_186_92 (by omega) ?_
                            refine zw_3 zr_186_93 rfl ?_
                            refine zw_16 zr_186_94 (by omega) ?_
                            refine zw_48k (c := 80) (len := 100) zr_186_95 rfl rfl (by omega) (by omega) rfl ex36.symm ?_
                            refine zw_R zr_186_96 (by decide) zm_186 (v := (0, x36)) rfl ?_
                            rw [← hQ]; exact ⟨_, rfl, by omega, by omega, hIm33, hFm33⟩
                          · intro h39
                            refine zw_7 zr_186_70 rfl ?_
                            refine zw_46r (s := 80) zr_186_71 rfl rfl rfl rfl ?_
                            refine zw_push zr_186_74 ?_
                            refine zw_3 zr_186_76 rfl ?_
                            refine zw_18 zr_186_77 (by omega) ?_
                            refine zw_3 zr_186_78 rfl ?_
                            refine zw_16 zr_186_79 (by omega) ?_
                            refine zw_48 (c := 80) (len := 100) zr_186_80 rfl rfl (by omega) (by omega) ?_
                            intro x40 ex40
                            have bx40 := hIm33.ra (c := 80) (len := 100) (k := (((10 * a0) + a1)).toNat) rfl (by omega)
                            rw [← ex40] at bx40
                            clear ex40
                            refine zw_38h zr_186_81 ?_
                            intro x41 hx41a hx41b
                            refine zw_42 zr_186_82 ?_
                            refine zw_R zr_186_96 (by decide) zm_186 (v := (0, x41)) rfl ?_
                            rw [← hQ]; exact ⟨_, rfl, by omega, by omega, hIm33, hFm33⟩
                        · intro h42
                          refine zw_push zr_186_63 ?_
                          refine zw_R zr_186_65 (by decide) zm_186 (v := (0, (-300000))) rfl ?_
                          rw [← hQ]; exact ⟨_, rfl, by omega, by omega, hIm33, hFm33⟩
                      · intro h43
                        refine zw_push zr_186_44 ?_
                        refine zw_R zr_186_46 (by decide) zm_186 (v := (0, (-200000))) rfl ?_
                        rw [← hQ]; exact ⟨_, rfl, by omega, by omega, hIm33, hFm33⟩
                    · intro h44; omega

abbrev W_86 : List (Nat × Nat) := [(58, 1000), (59, 1000)]
set_option maxHeartbeats 8000000 in
theorem th_86 {E : zE} {d : Nat} {m0 : zM} {a0 : Int} (hd : 5 ≤ d) (hI0 : zInv m0) (ha0 : 0 ≤ a0 ∧ a0 ≤ 1152921504606846975) : zC E d 86 [(2, 55), (1, a0)] m0 (fun v m' => ∃ r : Int, v = (0, r) ∧ 0 ≤ r ∧ r ≤ 4 ∧ zInv m' ∧ zFr W_86 m0 m') := by
  have hF0 : zFr W_86 m0 m0 := zFr.rfl
  generalize hQ : (fun (v : zV) (m' : zM) => ∃ r : Int, v = (0, r) ∧ 0 ≤ r ∧ r ≤ 4 ∧ zInv m' ∧ zFr W_86 m0 m') = Q
  show zW E d 86 0 [(2, 55), (1, a0), (9, 0), (9, 0), (9, 0), (9, 0), (9, 0), (9, 0)] [] m0 Q
  refine zw_5 zr_86_0 rfl ?_
  refine zw_13 (L' := [(2, 55), (1, a0), (9, 0), (1, a0), (9, 0), (9, 0), (9, 0), (9, 0)]) zr_86_1 (Nat.le_of_ble_eq_true rfl) rfl ?_
  refine zw_push zr_86_2 ?_
  refine zw_10 (L' := [(2, 55), (1, a0), (9, 0), (1, a0), (9, 0), (0, 0), (9, 0), (9, 0)]) zr_86_3 (Nat.le_of_ble_eq_true rfl) rfl ?_
  have lp5_4 : ∀ (nlp5_4 : Nat) (i1 i2 : Int) (m3 : zM), zInv m3 → zFr W_86 m0 m3 → (-9223372036854775808) ≤ i1 → i1 ≤ 9223372036854775807 → 0 ≤ i2 → i2 ≤ 4 → (4 - i2).toNat < nlp5_4 → zW E (d) 86 5 [(2, 55), (1, a0), (9, 0), (1, i1), (9, 0), (0, i2), (9, 0), (9, 0)] [] m3 Q := by
    intro nlp5_4
    induction nlp5_4 with
    | zero =>
      intros
      exact absurd (by assumption : _ < 0) (Nat.not_lt_zero _)
    | succ nlp5_4 ihlp5_4 =>
      intro i1 i2 m3 hIm3 hFm3 li1 ui1 li2 ui2 hmlp5_4
      refine zw_4 zr_86_5 rfl ?_
      refine zw_push zr_86_7 ?_
      refine zw_41_2 zr_86_8 ?_ ?_
      · intro h6
        refine zw_push zr_86_43 ?_
        refine zw_R zr_86_44 (by decide) zm_86 (v := (0, 4)) rfl ?_
        rw [← hQ]; exact ⟨_, rfl, by omega, by omega, hIm3, hFm3⟩
      · intro h7
        refine zw_7 zr_86_11 rfl ?_
        refine zw_5 zr_86_12 rfl ?_
        refine zw_C zr_86_13 (Or.inl rfl) zm_83 rfl rfl ⟨Nat.le_of_ble_eq_true rfl, Nat.le_of_ble_eq_true rfl, Nat.le_of_ble_eq_true rfl, rfl, by decide⟩ (by omega) (th_83 (d := d - 1) (by omega) hIm3 (a0 := i1)      (by omega) ) ?_
        rintro _ m8 ⟨r9, rfl, hr9a, hr9b, hIm8, gm8⟩
        have hFm8 : zFr W_86 m0 m8 := hFm3.trans gm8 rfl
        show zW E (d) 86 16 [(2, 55), (1, a0), (9, 0), (1, i1), (9, 0), (0, i2), (9, 0), (9, 0)] [(1, r9)] m8 Q
        refine zw_14 (L' := [(2, 55), (1, a0), (9, 0), (1, i1), (9, 0), (0, i2), (1, r9), (9, 0)]) zr_86_16 (Nat.le_of_ble_eq_true rfl) rfl ?_
        refine zw_6 zr_86_18 rfl ?_
        refine zw_push zr_86_20 ?_
        refine zw_39_4 zr_86_21 zr_86_22 ?_ ?_
        · intro h10
          refine zw_5 zr_86_28 rfl ?_
          refine zw_6 zr_86_29 rfl ?_
          refine zw_push zr_86_31 ?_
          refine zw_32h zr_86_34 ?_
          intro x11 hx11a hx11b
          refine zw_30h zr_86_35 ?_
          intro x12 hx12a hx12b
          refine zw_13 (L' := [(2, 55), (1, a0), (9, 0), (1, x12), (9, 0), (0, i2), (1, r9), (9, 0)]) zr_86_36 (Nat.le_of_ble_eq_true rfl) rfl ?_
          refine zw_15 (c := 1) (L' := [(2, 55), (1, a0), (9, 0), (1, x12), (9, 0), (0, (i2 + 1)), (1, r9), (9, 0)]) zr_86_37 rfl (by decide) (by omega) rfl ?_
          refine zw_42 zr_86_40 ?_
          exact zw_less (L := [(2, 55), (1, a0), (9, 0), (1, x12), (9, 0), (0, (i2 + 1)), (9, 0), (9, 0)]) ⟨Or.inr rfl, Or.inr rfl, Or.inl rfl, Or.inr rfl, Or.inl rfl, Or.inr rfl, Or.inl rfl, Or.inl rfl, trivial⟩ (ihlp5_4 (x12) ((i2 + 1)) m8 hIm8 hFm8   (by omega) (by omega) (by omega) (by omega)  (by omega))
        · intro h13
          refine zw_4 zr_86_25 rfl ?_
          refine zw_R zr_86_27 (by decide) zm_86 (v := (0, i2)) rfl ?_
          rw [← hQ]; exact ⟨_, rfl, by omega, by omega, hIm8, hFm8⟩
  exact lp5_4 _ (a0) (0) m0 hI0 hF0   (by omega) (by omega) (by omega) (by omega)  (Nat.lt_succ_self _)

abbrev W_87 : List (Nat × Nat) := [(55, 5), (58, 1000), (59, 1000)]
def rs_87 (E : zE) (d : Nat) : Prop := ∀ (m0 : zM) (a0 : Int) (a1 : Int) (a2 : Int) (a3 : Int), a3.toNat + 6 ≤ d → zInv m0 → (0 ≤ a0 ∧ a0 ≤ 1152921504606846975) → ((-9223372036854775808) ≤ a1 ∧ a1 ≤ 9223372036854775807) → ((-9223372036854775808) ≤ a2 ∧ a2 ≤ 9223372036854775807) → (0 ≤ a3 ∧ a3 ≤ 3) → zC E d 87 [(2, 55), (1, a0), (1, a1), (1, a2), (0, a3)] m0 (fun v m' => v = (9, 0) ∧ zInv m' ∧ zFr W_87 m0 m')
set_option maxHeartbeats 8000000 in
theorem tr_87 {E : zE} {d : Nat} (ih87 : rs_87 E (d - 1)) : rs_87 E d := by
  intro m0 a0 a1 a2 a3 hd hI0 ha0 ha1 ha2 ha3
  have hF0 : zFr W_87 m0 m0 := zFr.rfl
  generalize hQ : (fun (v : zV) (m' : zM) => v = (9, 0) ∧ zInv m' ∧ zFr W_87 m0 m') = Q
  show zW E d 87 0 [(2, 55), (1, a0), (9, 0), (1, a1), (9, 0), (1, a2), (9, 0), (0, a3), (9, 0), (9, 0), (9, 0), (9, 0), (9, 0), (9, 0), (9, 0)] [] m0 Q
  refine zw_7 zr_87_0 rfl ?_
  obtain ⟨f1, ef1⟩ : ∃ v, m0 55 5 = v := ⟨_, rfl⟩
  have bf1 := hI0.fl (c := 55) (k := 5) rfl
  rw [ef1] at bf1
  refine zw_46l zr_87_1 ef1 rfl rfl rfl ?_
  refine zw_push zr_87_4 ?_
  refine zw_39_1 zr_87_7 zr_87_8 ?_ ?_
  · intro h2
    refine zw_7 zr_87_21 rfl ?_
    refine zw_5 zr_87_22 rfl ?_
    refine zw_5 zr_87_23 rfl ?_
    refine zw_push zr_87_24 ?_
    refine zw_32h zr_87_27 ?_
    intro x3 hx3a hx3b
    refine zw_30h zr_87_28 ?_
    intro x4 hx4a hx4b
    refine zw_C zr_87_29 (Or.inl rfl) zm_83 rfl rfl ⟨Nat.le_of_ble_eq_true rfl, Nat.le_of_ble_eq_true rfl, Nat.le_of_ble_eq_true rfl, rfl, by decide⟩ (by omega) (th_83 (d := d - 1) (by omega) hI0 (a0 := x4)      (by omega) ) ?_
    rintro _ m5 ⟨r6, rfl, hr6a, hr6b, hIm5, gm5⟩
    have hFm5 : zFr W_87 m0 m5 := hF0.trans gm5 rfl
    have km5_55_5 : m5 55 5 = f1 := (gm5 55 5 rfl).trans ef1
    show zW E (d) 87 32 [(2, 55), (1, a0), (9, 0), (1, a1), (9, 0), (1, a2), (9, 0), (0, a3), (9, 0), (9, 0), (9, 0), (9, 0), (9, 0), (9, 0), (9, 0)] [(1, r6)] m5 Q
    refine zw_14 (L' := [(2, 55), (1, a0), (9, 0), (1, a1), (9, 0), (1, a2), (9, 0), (0, a3), (1, r6), (9, 0), (9, 0), (9, 0), (9, 0), (9, 0), (9, 0)]) zr_87_32 (Nat.le_of_ble_eq_true rfl) rfl ?_
    refine zw_6 zr_87_34 rfl ?_
    refine zw_push zr_87_36 ?_
    refine zw_39_4 zr_87_37 zr_87_38 ?_ ?_
    · intro h7
      refine zw_4 zr_87_47 rfl ?_
      refine zw_40_2 zr_87_49 ?_ ?_
      · intro h8
        refine zw_6 zr_87_53 rfl ?_
        refine zw_14 (L' := [(2, 55), (1, a0), (9, 0), (1, a1), (9, 0), (1, a2), (9, 0), (0, a3), (1, r6), (9, 0), (1, a2), (9, 0), (9, 0), (9, 0), (9, 0)]) zr_87_55 (Nat.le_of_ble_eq_true rfl) rfl ?_
        refine zw_push zr_87_57 ?_
        refine zw_10 (L' := [(2, 55), (1, a0), (9, 0), (1, a1), (9, 0), (1, a2), (9, 0), (0, a3), (1, r6), (9, 0), (1, a2), (9, 0), (0, 0), (9, 0), (9, 0)]) zr_87_58 (Nat.le_of_ble_eq_true rfl) rfl ?_
        have lp60_12 : ∀ (nlp60_12 : Nat) (i9 i10 : Int) (m11 : zM), zInv m11 → zFr W_87 m0 m11 → (-9223372036854775808) ≤ i9 → i9 ≤ 9223372036854775807 → 0 ≤ i10 → i10 ≤ 60 → (60 - i10).toNat < nlp60_12 → zW E (d) 87 60 [(2, 55), (1, a0), (9, 0), (1, a1), (9, 0), (1, a2), (9, 0), (0, a3), (1, r6), (9, 0), (1, i9), (9, 0), (0, i10), (9, 0), (9, 0)] [] m11 Q := by
          intro nlp60_12
          induction nlp60_12 with
          | zero =>
            intros
            exact absurd (by assumption : _ < 0) (Nat.not_lt_zero _)
          | succ nlp60_12 ihlp60_12 =>
            intro i9 i10 m11 hIm11 hFm11 li9 ui9 li10 ui10 hmlp60_12
            refine zw_4 zr_87_60 rfl ?_
            refine zw_7 zr_87_62 rfl ?_
            refine zw_46r (s := 1) zr_87_63 rfl rfl rfl rfl ?_
            obtain ⟨f14, ef14⟩ : ∃ v, m11 1 1 = v := ⟨_, rfl⟩
            have bf14 := ib_1_1 hIm11
            rw [ef14] at bf14
            refine zw_46i zr_87_66 ef14 rfl rfl rfl ?_
            refine zw_41_3 zr_87_69 ?_ ?_
            · intro h15
              refine zw_R zr_87_123 (by decide) zm_87 (v := (9, 0)) rfl ?_
              rw [← hQ]; exact ⟨rfl, hIm11, hFm11⟩
            · intro h16
              refine zw_push zr_87_72 ?_
              refine zw_4 zr_87_73 rfl ?_
              refine zw_33p zr_87_75 (by omega) ?_
              intro x17 ex17 hx17a hx17b
              refine zw_14 (L' := [(2, 55), (1, a0), (9, 0), (1, a1), (9, 0), (1, a2), (9, 0), (0, a3), (1, r6), (9, 0), (1, i9), (9, 0), (0, i10), (1, x17), (9, 0)]) zr_87_76 (Nat.le_of_ble_eq_true rfl) rfl ?_
              refine zw_6 zr_87_78 rfl ?_
              refine zw_6 zr_87_80 rfl ?_
              refine zw_push zr_87_82 ?_
              refine zw_32h zr_87_85 ?_
              intro x18 hx18a hx18b
              refine zw_30h zr_87_86 ?_
              intro x19 hx19a hx19b
              refine zw_6 zr_87_87 rfl ?_
              refine zw_30h zr_87_89 ?_
              intro x20 hx20a hx20b
              refine zw_push zr_87_90 ?_
              refine zw_39_1 zr_87_91 zr_87_92 ?_ ?_
              · intro h21
                refine zw_15 (c := 1) (L' := [(2, 55), (1, a0), (9, 0), (1, a1), (9, 0), (1, a2), (9, 0), (0, a3), (1, r6), (9, 0), (1, i9), (9, 0), (0, (i10 + 1)), (1, x17), (9, 0)]) zr_87_117 rfl (by decide) (by omega) rfl ?_
                refine zw_42 zr_87_120 ?_
                exact zw_less (L := [(2, 55), (1, a0), (9, 0), (1, a1), (9, 0), (1, a2), (9, 0), (0, a3), (1, r6), (9, 0), (1, i9), (9, 0), (0, (i10 + 1)), (9, 0), (9, 0)]) ⟨Or.inr rfl, Or.inr rfl, Or.inl rfl, Or.inr rfl, Or.inl rfl, Or.inr rfl, Or.inl rfl, Or.inr rfl, Or.inr rfl, Or.inl rfl, Or.inr rfl, Or.inl rfl, Or.inr rfl, Or.inl rfl, Or.inl rfl, trivial⟩ (ihlp60_12 (i9) ((i10 + 1)) m11 hIm11 hFm11   (by omega) (by omega) (by omega) (by omega)  (by omega))
              · intro h22
                refine zw_7 zr_87_95 rfl ?_
                refine zw_5 zr_87_96 rfl ?_
                refine zw_5 zr_87_97 rfl ?_
                refine zw_6 zr_87_98 rfl ?_
                refine zw_31h zr_87_100 ?_
                intro x23 hx23a hx23b
                refine zw_6 zr_87_101 rfl ?_
                refine zw_4 zr_87_103 rfl ?_
                refine zw_push zr_87_105 ?_
                refine zw_17 zr_87_106 (by omega) ?_
                refine zw_C zr_87_107 (Or.inl rfl) zm_87 rfl rfl ⟨Nat.le_of_ble_eq_true rfl, Nat.le_of_ble_eq_true rfl, Nat.le_of_ble_eq_true rfl, rfl, by decide⟩ (by omega) (ih87 m11 (a0) (x23) (i9) ((a3 - 1)) (by omega) hIm11   (by omega) (by omega) (by omega) (by omega) ) ?_
                rintro _ m24 ⟨rfl, hIm24, gm24⟩
                have hFm24 : zFr W_87 m0 m24 := hFm11.trans gm24 rfl
                have km24_1_1 : m24 1 1 = f14 := (gm24 1 1 rfl).trans ef14
                show zW E (d) 87 110 [(2, 55), (1, a0), (9, 0), (1, a1), (9, 0), (1, a2), (9, 0), (0, a3), (1, r6), (9, 0), (1, i9), (9, 0), (0, i10), (1, x17), (9, 0)] [] m24 Q
                refine zw_6 zr_87_110 rfl ?_
                refine zw_6 zr_87_112 rfl ?_
                refine zw_31h zr_87_114 ?_
                intro x25 hx25a hx25b
                refine zw_14 (L' := [(2, 55), (1, a0), (9, 0), (1, a1), (9, 0), (1, a2), (9, 0), (0, a3), (1, r6), (9, 0), (1, x25), (9, 0), (0, i10), (1, x17), (9, 0)]) zr_87_115 (Nat.le_of_ble_eq_true rfl) rfl ?_
                refine zw_15 (c := 1) (L' := [(2, 55), (1, a0), (9, 0), (1, a1), (9, 0), (1, a2), (9, 0), (0, a3), (1, r6), (9, 0), (1, x25), (9, 0), (0, (i10 + 1)), (1, x17), (9, 0)]) zr_87_117 rfl (by decide) (by omega) rfl ?_
                refine zw_42 zr_87_120 ?_
                exact zw_less (L := [(2, 55), (1, a0), (9, 0), (1, a1), (9, 0), (1, a2), (9, 0), (0, a3), (1, r6), (9, 0), (1, x25), (9, 0), (0, (i10 + 1)), (9, 0), (9, 0)]) ⟨Or.inr rfl, Or.inr rfl, Or.inl rfl, Or.inr rfl, Or.inl rfl, Or.inr rfl, Or.inl rfl, Or.inr rfl, Or.inr rfl, Or.inl rfl, Or.inr rfl, Or.inl rfl, Or.inr rfl, Or.inl rfl, Or.inl rfl, trivial⟩ (ihlp60_12 (x25) ((i10 + 1)) m24 hIm24 hFm24   (by omega) (by omega) (by omega) (by omega)  (by omega))
        exact lp60_12 _ (a2) (0) m5 hIm5 hFm5   (by omega) (by omega) (by omega) (by omega)  (Nat.lt_succ_self _)
      · intro h26
        refine zw_R zr_87_52 (by decide) zm_87 (v := (9, 0)) rfl ?_
        rw [← hQ]; exact ⟨rfl, hIm5, hFm5⟩
    · intro h27
      refine zw_7 zr_87_41 rfl ?_
      refine zw_5 zr_87_42 rfl ?_
      refine zw_47 (c := 55) zr_87_43 rfl ⟨rfl, by decide, rfl⟩ ?_
      intro m28 em28
      have hIm28 : zInv m28 := by rw [em28]; exact hIm5.anyl (by omega) (by decide) rfl (by decide) (by decide)
      have hFm28 : zFr W_87 m0 m28 := by rw [em28]; exact hFm5.up rfl
      have km28_55_5 : m28 55 5 = a1 := by rw [em28]; exact zUp_eq _ _ _ _
      clear em28
      refine zw_R zr_87_46 (by decide) zm_87 (v := (9, 0)) rfl ?_
      rw [← hQ]; exact ⟨rfl, hIm28, hFm28⟩
  · intro h29
    refine zw_5 zr_87_11 rfl ?_
    refine zw_7 zr_87_12 rfl ?_
    refine zw_46l zr_87_13 ef1 rfl rfl rfl ?_
    refine zw_39_0 zr_87_16 zr_87_17 ?_ ?_
    · intro h30
      refine zw_7 zr_87_21 rfl ?_
      refine zw_5 zr_87_22 rfl ?_
      refine zw_5 zr_87_23 rfl ?_
      refine zw_push zr_87_24 ?_
      refine zw_32h zr_87_27 ?_
      intro x31 hx31a hx31b
      refine zw_30h zr_87_28 ?_
      intro x32 hx32a hx32b
      refine zw_C zr_87_29 (Or.inl rfl) zm_83 rfl rfl ⟨Nat.le_of_ble_eq_true rfl, Nat.le_of_ble_eq_true rfl, Nat.le_of_ble_eq_true rfl, rfl, by decide⟩ (by omega) (th_83 (d := d - 1) (by omega) hI0 (a0 := x32)      (by omega) ) ?_
      rintro _ m33 ⟨r34, rfl, hr34a, hr34b, hIm33, gm33⟩
      have hFm33 : zFr W_87 m0 m33 := hF0.trans gm33 rfl
      have km33_55_5 : m33 55 5 = f1 := (gm33 55 5 rfl).trans ef1
      show zW E (d) 87 32 [(2, 55), (1, a0), (9, 0), (1, a1), (9, 0), (1, a2), (9, 0), (0, a3), (9, 0), (9, 0), (9, 0), (9, 0), (9, 0), (9, 0), (9, 0)] [(1, r34)] m33 Q
      refine zw_14 (L' := [(2, 55), (1, a0), (9, 0), (1, a1), (9, 0), (1, a2), (9, 0), (0, a3), (1, r34), (9, 0), (9, 0), (9, 0), (9, 0), (9, 0), (9, 0)]) zr_87_32 (Nat.le_of_ble_eq_true rfl) rfl ?_
      refine zw_6 zr_87_34 rfl ?_
      refine zw_push zr_87_36 ?_
      refine zw_39_4 zr_87_37 zr_87_38 ?_ ?_
      · intro h35
        refine zw_4 zr_87_47 rfl ?_
        refine zw_40_2 zr_87_49 ?_ ?_
        · intro h36
          refine zw_6 zr_87_53 rfl ?_
          refine zw_14 (L' := [(2, 55), (1, a0), (9, 0), (1, a1), (9, 0), (1, a2), (9, 0), (0, a3), (1, r34), (9, 0), (1, a2), (9, 0), (9, 0), (9, 0), (9, 0)]) zr_87_55 (Nat.le_of_ble_eq_true rfl) rfl ?_
          refine zw_push zr_87_57 ?_
          refine zw_10 (L' := [(2, 55), (1, a0), (9, 0), (1, a1), (9, 0), (1, a2), (9, 0), (0, a3), (1, r34), (9, 0), (1, a2), (9, 0), (0, 0), (9, 0), (9, 0)]) zr_87_58 (Nat.le_of_ble_eq_true rfl) rfl ?_
          have lp60_40 : ∀ (nlp60_40 : Nat) (i37 i38 : Int) (m39 : zM), zInv m39 → zFr W_87 m0 m39 → (-9223372036854775808) ≤ i37 → i37 ≤ 9223372036854775807 → 0 ≤ i38 → i38 ≤ 60 → (60 - i38).toNat < nlp60_40 → zW E (d) 87 60 [(2, 55), (1, a0), (9, 0), (1, a1), (9, 0), (1, a2), (9, 0), (0, a3), (1, r34), (9, 0), (1, i37), (9, 0), (0, i38), (9, 0), (9, 0)] [] m39 Q := by
            intro nlp60_40
            induction nlp60_40 with
            | zero =>
              intros
              exact absurd (by assumption : _ < 0) (Nat.not_lt_zero _)
            | succ nlp60_40 ihlp60_40 =>
              intro i37 i38 m39 hIm39 hFm39 li37 ui37 li38 ui38 hmlp60_40
              refine zw_4 zr_87_60 rfl ?_
              refine zw_7 zr_87_62 rfl ?_
              refine zw_46r (s := 1) zr_87_63 rfl rfl rfl rfl ?_
              obtain ⟨f42, ef42⟩ : ∃ v, m39 1 1 = v := ⟨_, rfl⟩
              have bf42 := ib_1_1 hIm39
              rw [ef42] at bf42
              refine zw_46i zr_87_66 ef42 rfl rfl rfl ?_
              refine zw_41_3 zr_87_69 ?_ ?_
              · intro h43
                refine zw_R zr_87_123 (by decide) zm_87 (v := (9, 0)) rfl ?_
                rw [← hQ]; exact ⟨rfl, hIm39, hFm39⟩
              · intro h44
                refine zw_push zr_87_72 ?_
                refine zw_4 zr_87_73 rfl ?_
                refine zw_33p zr_87_75 (by omega) ?_
                intro x45 ex45 hx45a hx45b
                refine zw_14 (L' := [(2, 55), (1, a0), (9, 0), (1, a1), (9, 0), (1, a2), (9, 0), (0, a3), (1, r34), (9, 0), (1, i37), (9, 0), (0, i38), (1, x45), (9, 0)]) zr_87_76 (Nat.le_of_ble_eq_true rfl) rfl ?_
                refine zw_6 zr_87_78 rfl ?_
                refine zw_6 zr_87_80 rfl ?_
                refine zw_push zr_87_82 ?_
                refine zw_32h zr_87_85 ?_
                intro x46 hx46a hx46b
                refine zw_30h zr_87_86 ?_
                intro x47 hx47a hx47b
                refine zw_6 zr_87_87 rfl ?_
                refine zw_30h zr_87_89 ?_
                intro x48 hx48a hx48b
                refine zw_push zr_87_90 ?_
                refine zw_39_1 zr_87_91 zr_87_92 ?_ ?_
                · intro h49
                  refine zw_15 (c := 1) (L' := [(2, 55), (1, a0), (9, 0), (1, a1), (9, 0), (1, a2), (9, 0), (0, a3), (1, r34), (9, 0), (1, i37), (9, 0), (0, (i38 + 1)), (1, x45), (9, 0)]) zr_87_117 rfl (by decide) (by omega) rfl ?_
                  refine zw_42 zr_87_120 ?_
                  exact zw_less (L := [(2, 55), (1, a0), (9, 0), (1, a1), (9, 0), (1, a2), (9, 0), (0, a3), (1, r34), (9, 0), (1, i37), (9, 0), (0, (i38 + 1)), (9, 0), (9, 0)]) ⟨Or.inr rfl, Or.inr rfl, Or.inl rfl, Or.inr rfl, Or.inl rfl, Or.inr rfl, Or.inl rfl, Or.inr rfl, Or.inr rfl, Or.inl rfl, Or.inr rfl, Or.inl rfl, Or.inr rfl, Or.inl rfl, Or.inl rfl, trivial⟩ (ihlp60_40 (i37) ((i38 + 1)) m39 hIm39 hFm39   (by omega) (by omega) (by omega) (by omega)  (by omega))
                · intro h50
                  refine zw_7 zr_87_95 rfl ?_
                  refine zw_5 zr_87_96 rfl ?_
                  refine zw_5 zr_87_97 rfl ?_
                  refine zw_6 zr_87_98 rfl ?_
                  refine zw_31h zr_87_100 ?_
                  intro x51 hx51a hx51b
                  refine zw_6 zr_87_101 rfl ?_
                  refine zw_4 zr_87_103 rfl ?_
                  refine zw_push zr_87_105 ?_
                  refine zw_17 zr_87_106 (by omega) ?_
                  refine zw_C zr_87_107 (Or.inl rfl) zm_87 rfl rfl ⟨Nat.le_of_ble_eq_true rfl, Nat.le_of_ble_eq_true rfl, Nat.le_of_ble_eq_true rfl, rfl, by decide⟩ (by omega) (ih87 m39 (a0) (x51) (i37) ((a3 - 1)) (by omega) hIm39   (by omega) (by omega) (by omega) (by omega) ) ?_
                  rintro _ m52 ⟨rfl, hIm52, gm52⟩
                  have hFm52 : zFr W_87 m0 m52 := hFm39.trans gm52 rfl
                  have km52_1_1 : m52 1 1 = f42 := (gm52 1 1 rfl).trans ef42
                  show zW E (d) 87 110 [(2, 55), (1, a0), (9, 0), (1, a1), (9, 0), (1, a2), (9, 0), (0, a3), (1, r34), (9, 0), (1, i37), (9, 0), (0, i38), (1, x45), (9, 0)] [] m52 Q
                  refine zw_6 zr_87_110 rfl ?_
                  refine zw_6 zr_87_112 rfl ?_
                  refine zw_31h zr_87_114 ?_
                  intro x53 hx53a hx53b
                  refine zw_14 (L' := [(2, 55), (1, a0), (9, 0), (1, a1), (9, 0), (1, a2), (9, 0), (0, a3), (1, r34), (9, 0), (1, x53), (9, 0), (0, i38), (1, x45), (9, 0)]) zr_87_115 (Nat.le_of_ble_eq_true rfl) rfl ?_
                  refine zw_15 (c := 1) (L' := [(2, 55), (1, a0), (9, 0), (1, a1), (9, 0), (1, a2), (9, 0), (0, a3), (1, r34), (9, 0), (1, x53), (9, 0), (0, (i38 + 1)), (1, x45), (9, 0)]) zr_87_117 rfl (by decide) (by omega) rfl ?_
                  refine zw_42 zr_87_120 ?_
                  exact zw_less (L := [(2, 55), (1, a0), (9, 0), (1, a1), (9, 0), (1, a2), (9, 0), (0, a3), (1, r34), (9, 0), (1, x53), (9, 0), (0, (i38 + 1)), (9, 0), (9, 0)]) ⟨Or.inr rfl, Or.inr rfl, Or.inl rfl, Or.inr rfl, Or.inl rfl, Or.inr rfl, Or.inl rfl, Or.inr rfl, Or.inr rfl, Or.inl rfl, Or.inr rfl, Or.inl rfl, Or.inr rfl, Or.inl rfl, Or.inl rfl, trivial⟩ (ihlp60_40 (x53) ((i38 + 1)) m52 hIm52 hFm52   (by omega) (by omega) (by omega) (by omega)  (by omega))
          exact lp60_40 _ (a2) (0) m33 hIm33 hFm33   (by omega) (by omega) (by omega) (by omega)  (Nat.lt_succ_self _)
        · intro h54
          refine zw_R zr_87_52 (by decide) zm_87 (v := (9, 0)) rfl ?_
          rw [← hQ]; exact ⟨rfl, hIm33, hFm33⟩
      · intro h55
        refine zw_7 zr_87_41 rfl ?_
        refine zw_5 zr_87_42 rfl ?_
        refine zw_47 (c := 55) zr_87_43 rfl ⟨rfl, by decide, rfl⟩ ?_
        intro m56 em56
        have hIm56 : zInv m56 := by rw [em56]; exact hIm33.anyl (by omega) (by decide) rfl (by decide) (by decide)
        have hFm56 : zFr W_87 m0 m56 := by rw [em56]; exact hFm33.up rfl
        have km56_55_5 : m56 55 5 = a1 := by rw [em56]; exact zUp_eq _ _ _ _
        clear em56
        refine zw_R zr_87_46 (by decide) zm_87 (v := (9, 0)) rfl ?_
        rw [← hQ]; exact ⟨rfl, hIm56, hFm56⟩
    · intro h57
      refine zw_R zr_87_20 (by decide) zm_87 (v := (9, 0)) rfl ?_
      rw [← hQ]; exact ⟨rfl, hI0, hF0⟩
theorem gr_87 (E : zE) : ∀ d, rs_87 E d := by
  intro d
  induction d with
  | zero => exact (by intro m0 a0 a1 a2 a3 hd; exfalso; omega)
  | succ d ih => exact tr_87 (d := d + 1) ih
theorem th_87 {E : zE} {d : Nat} {m0 : zM} {a0 : Int} {a1 : Int} {a2 : Int} {a3 : Int} (hd : a3.toNat + 6 ≤ d) (hI0 : zInv m0) (ha0 : 0 ≤ a0 ∧ a0 ≤ 1152921504606846975) (ha1 : (-9223372036854775808) ≤ a1 ∧ a1 ≤ 9223372036854775807) (ha2 : (-9223372036854775808) ≤ a2 ∧ a2 ≤ 9223372036854775807) (ha3 : 0 ≤ a3 ∧ a3 ≤ 3) : zC E d 87 [(2, 55), (1, a0), (1, a1), (1, a2), (0, a3)] m0 (fun v m' => v = (9, 0) ∧ zInv m' ∧ zFr W_87 m0 m') := (gr_87 E d) m0 a0 a1 a2 a3 hd hI0 ha0 ha1 ha2 ha3

abbrev W_88 : List (Nat × Nat) := [(55, 5), (56, 1000), (57, 1000), (58, 1000), (59, 1000)]
set_option maxHeartbeats 8000000 in
theorem th_88 {E : zE} {d : Nat} {m0 : zM} (hd : 10 ≤ d) (hI0 : zInv m0) : zC E d 88 [(2, 55)] m0 (fun v m' => ∃ r : Int, v = (1, r) ∧ (-9223372036854775808) ≤ r ∧ r ≤ 9223372036854775807 ∧ zInv m' ∧ zFr W_88 m0 m') := by
  have hF0 : zFr W_88 m0 m0 := zFr.rfl
  generalize hQ : (fun (v : zV) (m' : zM) => ∃ r : Int, v = (1, r) ∧ (-9223372036854775808) ≤ r ∧ r ≤ 9223372036854775807 ∧ zInv m' ∧ zFr W_88 m0 m') = Q
  show zW E d 88 0 [(2, 55), (9, 0), (9, 0), (9, 0)] [] m0 Q
  refine zw_7 zr_88_0 rfl ?_
  refine zw_C zr_88_1 (Or.inl rfl) zm_78 rfl rfl ⟨Nat.le_of_ble_eq_true rfl, Nat.le_of_ble_eq_true rfl, Nat.le_of_ble_eq_true rfl, rfl, by decide⟩ (by omega) (th_78 (d := d - 1) (by omega) hI0        ) ?_
  rintro _ m1 ⟨rfl, hIm1, gm1⟩
  have hFm1 : zFr W_88 m0 m1 := hF0.trans gm1 rfl
  show zW E (d) 88 4 [(2, 55), (9, 0), (9, 0), (9, 0)] [] m1 Q
  refine zw_7 zr_88_4 rfl ?_
  refine zw_46r (s := 1) zr_88_5 rfl rfl rfl rfl ?_
  obtain ⟨f2, ef2⟩ : ∃ v, m1 1 1 = v := ⟨_, rfl⟩
  have bf2 := ib_1_1 hIm1
  rw [ef2] at bf2
  obtain ⟨f3, ef3⟩ : ∃ v, m1 1 2 = v := ⟨_, rfl⟩
  have bf3 := ib_1_2 hIm1
  rw [ef3] at bf3
  obtain ⟨f4, ef4⟩ : ∃ v, m1 1 3 = v := ⟨_, rfl⟩
  have bf4 := ib_1_3 hIm1
  rw [ef4] at bf4
  refine zw_C zr_88_8 (Or.inl rfl) zm_53 rfl rfl ⟨Nat.le_of_ble_eq_true rfl, Nat.le_of_ble_eq_true rfl, Nat.le_of_ble_eq_true rfl, rfl, by decide⟩ (by omega) (th_53 (d := d - 1) (by omega) hIm1  (g0 := f2) (g1 := f3) (g2 := f4)   ef2 ef3 ef4   ) ?_
  rintro _ _ ⟨r5, rfl, hr5a, hr5b, rfl, po0_r5⟩
  show zW E (d) 88 11 [(2, 55), (9, 0), (9, 0), (9, 0)] [(1, r5)] m1 Q
  refine zw_13 (L' := [(2, 55), (1, r5), (9, 0), (9, 0)]) zr_88_11 (Nat.le_of_ble_eq_true rfl) rfl ?_
  refine zw_7 zr_88_12 rfl ?_
  refine zw_5 zr_88_13 rfl ?_
  refine zw_C zr_88_14 (Or.inl rfl) zm_86 rfl rfl ⟨Nat.le_of_ble_eq_true rfl, Nat.le_of_ble_eq_true rfl, Nat.le_of_ble_eq_true rfl, rfl, by decide⟩ (by omega) (th_86 (d := d - 1) (by omega) hIm1 (a0 := r5)      (by omega) ) ?_
  rintro _ m6 ⟨r7, rfl, hr7a, hr7b, hIm6, gm6⟩
  have hFm6 : zFr W_88 m0 m6 := hFm1.trans gm6 rfl
  have km6_1_1 : m6 1 1 = f2 := (gm6 1 1 rfl).trans ef2
  have km6_1_2 : m6 1 2 = f3 := (gm6 1 2 rfl).trans ef3
  have km6_1_3 : m6 1 3 = f4 := (gm6 1 3 rfl).trans ef4
  show zW E (d) 88 17 [(2, 55), (1, r5), (9, 0), (9, 0)] [(0, r7)] m6 Q
  refine zw_9 (L' := [(2, 55), (1, r5), (9, 0), (0, r7)]) zr_88_17 (Nat.le_of_ble_eq_true rfl) rfl ?_
  have lp18_10 : ∀ (nlp18_10 : Nat) (i8 : Int) (m9 : zM), zInv m9 → zFr W_88 m0 m9 → m9 1 1 = f2 → m9 1 2 = f3 → m9 1 3 = f4 → 0 ≤ i8 → i8 ≤ 4 → (4 - i8).toNat < nlp18_10 → zW E (d) 88 18 [(2, 55), (1, r5), (9, 0), (0, i8)] [] m9 Q := by
    intro nlp18_10
    induction nlp18_10 with
    | zero =>
      intros
      exact absurd (by assumption : _ < 0) (Nat.not_lt_zero _)
    | succ nlp18_10 ihlp18_10 =>
      intro i8 m9 hIm9 hFm9 km9_1_1 km9_1_2 km9_1_3 li8 ui8 hmlp18_10
      refine zw_3 zr_88_18 rfl ?_
      refine zw_push zr_88_19 ?_
      refine zw_41_2 zr_88_20 ?_ ?_
      · intro h12
        refine zw_push zr_88_60 ?_
        refine zw_R zr_88_63 (by decide) zm_88 (v := (1, (-5))) rfl ?_
        rw [← hQ]; exact ⟨_, rfl, by omega, by omega, hIm9, hFm9⟩
      · intro h13
        refine zw_7 zr_88_23 rfl ?_
        refine zw_push zr_88_24 ?_
        refine zw_47 (c := 55) zr_88_27 rfl ⟨rfl, by decide, rfl⟩ ?_
        intro m14 em14
        have hIm14 : zInv m14 := by rw [em14]; exact hIm9.anyl (by omega) (by decide) rfl (by decide) (by decide)
        have hFm14 : zFr W_88 m0 m14 := by rw [em14]; exact hFm9.up rfl
        have km14_1_1 : m14 1 1 = f2 := by rw [em14, zUp_ne (by omega)]; exact km9_1_1
        have km14_1_2 : m14 1 2 = f3 := by rw [em14, zUp_ne (by omega)]; exact km9_1_2
        have km14_1_3 : m14 1 3 = f4 := by rw [em14, zUp_ne (by omega)]; exact km9_1_3
        have km14_55_5 : m14 55 5 = (-1) := by rw [em14]; exact zUp_eq _ _ _ _
        clear em14
        refine zw_7 zr_88_30 rfl ?_
        refine zw_5 zr_88_31 rfl ?_
        refine zw_push zr_88_32 ?_
        refine zw_push zr_88_33 ?_
        refine zw_3 zr_88_34 rfl ?_
        refine zw_C zr_88_35 (Or.inl rfl) zm_87 rfl rfl ⟨Nat.le_of_ble_eq_true rfl, Nat.le_of_ble_eq_true rfl, Nat.le_of_ble_eq_true rfl, rfl, by decide⟩ (by omega) (th_87 (d := d - 1) (by omega) hIm14 (a0 := r5) (a1 := 0) (a2 := 0) (a3 := i8)      (by omega) (by omega) (by omega) (by omega) ) ?_
        rintro _ m15 ⟨rfl, hIm15, gm15⟩
        have hFm15 : zFr W_88 m0 m15 := hFm14.trans gm15 rfl
        have km15_1_1 : m15 1 1 = f2 := (gm15 1 1 rfl).trans km14_1_1
        have km15_1_2 : m15 1 2 = f3 := (gm15 1 2 rfl).trans km14_1_2
        have km15_1_3 : m15 1 3 = f4 := (gm15 1 3 rfl).trans km14_1_3
        show zW E (d) 88 38 [(2, 55), (1, r5), (9, 0), (0, i8)] [] m15 Q
        refine zw_7 zr_88_38 rfl ?_
        obtain ⟨f16, ef16⟩ : ∃ v, m15 55 5 = v := ⟨_, rfl⟩
        have bf16 := hIm15.fl (c := 55) (k := 5) rfl
        rw [ef16] at bf16
        refine zw_46l zr_88_39 ef16 rfl rfl rfl ?_
        refine zw_push zr_88_42 ?_
        refine zw_39_1 zr_88_45 zr_88_46 ?_ ?_
        · intro h17
          refine zw_15 (c := 1) (L' := [(2, 55), (1, r5), (9, 0), (0, (i8 + 1))]) zr_88_54 rfl (by decide) (by omega) rfl ?_
          refine zw_42 zr_88_57 ?_
          exact zw_less (L := [(2, 55), (1, r5), (9, 0), (0, (i8 + 1))]) ⟨Or.inr rfl, Or.inr rfl, Or.inl rfl, Or.inr rfl, trivial⟩ (ihlp18_10 ((i8 + 1)) m15 hIm15 hFm15  km15_1_1 km15_1_2 km15_1_3 (by omega) (by omega)  (by omega))
        · intro h18
          refine zw_7 zr_88_49 rfl ?_
          refine zw_46l zr_88_50 ef16 rfl rfl rfl ?_
          refine zw_R zr_88_53 (by decide) zm_88 (v := (1, f16)) rfl ?_
          rw [← hQ]; exact ⟨_, rfl, by omega, by omega, hIm15, hFm15⟩
  exact lp18_10 _ (r7) m6 hIm6 hFm6  km6_1_1 km6_1_2 km6_1_3 (by omega) (by omega)  (Nat.lt_succ_self _)

abbrev W_119 : List (Nat × Nat) := [(55, 5), (56, 1000), (57, 1000), (58, 1000), (59, 1000)]
set_option maxHeartbeats 8000000 in
theorem th_119 {E : zE} {d : Nat} {m0 : zM} (hd : 11 ≤ d) (hI0 : zInv m0) : zC E d 119 [(2, 0)] m0 (fun v m' => ∃ r : Int, v = (1, r) ∧ (-9223372036854775808) ≤ r ∧ r ≤ 9223372036854775807 ∧ zInv m' ∧ zFr W_119 m0 m') := by
  have hF0 : zFr W_119 m0 m0 := zFr.rfl
  generalize hQ : (fun (v : zV) (m' : zM) => ∃ r : Int, v = (1, r) ∧ (-9223372036854775808) ≤ r ∧ r ≤ 9223372036854775807 ∧ zInv m' ∧ zFr W_119 m0 m') = Q
  show zW E d 119 0 [(2, 0)] [] m0 Q
  refine zw_7 zr_119_0 rfl ?_
  refine zw_46r (s := 55) zr_119_1 rfl rfl rfl rfl ?_
  refine zw_C zr_119_4 (Or.inl rfl) zm_88 rfl rfl ⟨Nat.le_of_ble_eq_true rfl, Nat.le_of_ble_eq_true rfl, Nat.le_of_ble_eq_true rfl, rfl, by decide⟩ (by omega) (th_88 (d := d - 1) (by omega) hI0        ) ?_
  rintro _ m1 ⟨r2, rfl, hr2a, hr2b, hIm1, gm1⟩
  have hFm1 : zFr W_119 m0 m1 := hF0.trans gm1 rfl
  show zW E (d) 119 7 [(2, 0)] [(1, r2)] m1 Q
  refine zw_R zr_119_7 (by decide) zm_119 (v := (1, r2)) rfl ?_
  rw [← hQ]; exact ⟨_, rfl, by omega, by omega, hIm1, hFm1⟩

abbrev W_187 : List (Nat × Nat) := [(80, 1000)]
set_option maxHeartbeats 8000000 in
theorem th_187 {E : zE} {d : Nat} {m0 : zM} (hd : 4 ≤ d) (hI0 : zInv m0) : zC E d 187 [(2, 69)] m0 (fun v m' => ∃ r : Int, v = (1, r) ∧ (-9223372036854775808) ≤ r ∧ r ≤ 9223372036854775807 ∧ zInv m' ∧ zFr W_187 m0 m') := by
  have hF0 : zFr W_187 m0 m0 := zFr.rfl
  generalize hQ : (fun (v : zV) (m' : zM) => ∃ r : Int, v = (1, r) ∧ (-9223372036854775808) ≤ r ∧ r ≤ 9223372036854775807 ∧ zInv m' ∧ zFr W_187 m0 m') = Q
  show zW E d 187 0 [(2, 69), (9, 0), (9, 0), (9, 0)] [] m0 Q
  refine zw_7 zr_187_0 rfl ?_
  refine zw_push zr_187_1 ?_
  refine zw_push zr_187_2 ?_
  refine zw_push zr_187_3 ?_
  refine zw_C zr_187_4 (Or.inl rfl) zm_184 rfl rfl ⟨Nat.le_of_ble_eq_true rfl, Nat.le_of_ble_eq_true rfl, Nat.le_of_ble_eq_true rfl, rfl, by decide⟩ (by omega) (th_184 (d := d - 1) (by omega) hI0 (a0 := (-1)) (a1 := (-1)) (a2 := (-1))      (by omega) (by omega) (by omega) ) ?_
  rintro _ m1 ⟨r2, rfl, hr2a, hr2b, hIm1, gm1⟩
  have hFm1 : zFr W_187 m0 m1 := hF0.trans gm1 rfl
  show zW E (d) 187 7 [(2, 69), (9, 0), (9, 0), (9, 0)] [(0, r2)] m1 Q
  refine zw_40_1 zr_187_7 ?_ ?_
  · intro h3
    refine zw_push zr_187_12 ?_
    refine zw_9 (L' := [(2, 69), (0, 0), (9, 0), (9, 0)]) zr_187_13 (Nat.le_of_ble_eq_true rfl) rfl ?_
    have lp14_6 : ∀ (nlp14_6 : Nat) (i4 : Int) (m5 : zM), zInv m5 → zFr W_187 m0 m5 → 0 ≤ i4 → i4 ≤ 60 → (60 - i4).toNat < nlp14_6 → zW E (d) 187 14 [(2, 69), (0, i4), (9, 0), (9, 0)] [] m5 Q := by
      intro nlp14_6
      induction nlp14_6 with
      | zero =>
        intros
        exact absurd (by assumption : _ < 0) (Nat.not_lt_zero _)
      | succ nlp14_6 ihlp14_6 =>
        intro i4 m5 hIm5 hFm5 li4 ui4 hmlp14_6
        refine zw_3 zr_187_14 rfl ?_
        refine zw_7 zr_187_15 rfl ?_
        refine zw_C zr_187_16 (Or.inl rfl) zm_142 rfl rfl ⟨Nat.le_of_ble_eq_true rfl, Nat.le_of_ble_eq_true rfl, Nat.le_of_ble_eq_true rfl, rfl, by decide⟩ (by omega) (P := (fun v m' => zW E (d) 187 19 [(2, 69), (0, i4), (9, 0), (9, 0)] (if v.1 = 9 then [(0, i4)] else v :: [(0, i4)]) m' Q)) ?_ (fun _ _ h => h)
        generalize hQ1 : (fun v m' => zW E (d) 187 19 [(2, 69), (0, i4), (9, 0), (9, 0)] (if v.1 = 9 then [(0, i4)] else v :: [(0, i4)]) m' Q) = Q1
        show zW E (d - 1) 142 0 [(2, 69)] [] m5 Q1
        refine zw_7 zr_142_0 rfl ?_
        refine zw_46r (s := 70) zr_142_1 rfl rfl rfl rfl ?_
        refine zw_push zr_142_4 ?_
        obtain ⟨f8, ef8⟩ : ∃ v, m5 70 823 = v := ⟨_, rfl⟩
        have bf8 : 0 ≤ m5 70 823 ∧ m5 70 823 ≤ 60 := ib_70_meetings hIm5 (by omega)
        rw [ef8] at bf8
        refine zw_48k (c := 70) (len := 826) zr_142_7 rfl rfl (by omega) (by omega) (show (823 : Int).toNat = 823 by omega) ef8 ?_
        refine zw_R zr_142_8 (by decide) zm_142 (v := (0, f8)) rfl ?_
        rw [← hQ1]
        show zW E (d) 187 19 [(2, 69), (0, i4), (9, 0), (9, 0)] [(0, f8), (0, i4)] m5 Q
        refine zw_41_3 zr_187_19 ?_ ?_
        · intro h9
          refine zw_push zr_187_50 ?_
          refine zw_9 (L' := [(2, 69), (0, 0), (9, 0), (9, 0)]) zr_187_51 (Nat.le_of_ble_eq_true rfl) rfl ?_
          have lp52_12 : ∀ (nlp52_12 : Nat) (i10 : Int) (m11 : zM), zInv m11 → zFr W_187 m0 m11 → m11 70 823 = f8 → 0 ≤ i10 → i10 ≤ 60 → (60 - i10).toNat < nlp52_12 → zW E (d) 187 52 [(2, 69), (0, i10), (9, 0), (9, 0)] [] m11 Q := by
            intro nlp52_12
            induction nlp52_12 with
            | zero =>
              intros
              exact absurd (by assumption : _ < 0) (Nat.not_lt_zero _)
            | succ nlp52_12 ihlp52_12 =>
              intro i10 m11 hIm11 hFm11 km11_70_823 li10 ui10 hmlp52_12
              refine zw_3 zr_187_52 rfl ?_
              refine zw_7 zr_187_53 rfl ?_
              refine zw_C zr_187_54 (Or.inl rfl) zm_142 rfl rfl ⟨Nat.le_of_ble_eq_true rfl, Nat.le_of_ble_eq_true rfl, Nat.le_of_ble_eq_true rfl, rfl, by decide⟩ (by omega) (P := (fun v m' => zW E (d) 187 57 [(2, 69), (0, i10), (9, 0), (9, 0)] (if v.1 = 9 then [(0, i10)] else v :: [(0, i10)]) m' Q)) ?_ (fun _ _ h => h)
              generalize hQ1 : (fun v m' => zW E (d) 187 57 [(2, 69), (0, i10), (9, 0), (9, 0)] (if v.1 = 9 then [(0, i10)] else v :: [(0, i10)]) m' Q) = Q1
              show zW E (d - 1) 142 0 [(2, 69)] [] m11 Q1
              refine zw_7 zr_142_0 rfl ?_
              refine zw_46r (s := 70) zr_142_1 rfl rfl rfl rfl ?_
              refine zw_push zr_142_4 ?_
              refine zw_48k (c := 70) (len := 826) zr_142_7 rfl rfl (by omega) (by omega) (show (823 : Int).toNat = 823 by omega) km11_70_823 ?_
              refine zw_R zr_142_8 (by decide) zm_142 (v := (0, f8)) rfl ?_
              rw [← hQ1]
              show zW E (d) 187 57 [(2, 69), (0, i10), (9, 0), (9, 0)] [(0, f8), (0, i10)] m11 Q
              refine zw_41_3 zr_187_57 ?_ ?_
              · intro h14
                refine zw_push zr_187_113 ?_
                refine zw_9 (L' := [(2, 69), (0, 0), (9, 0), (9, 0)]) zr_187_114 (Nat.le_of_ble_eq_true rfl) rfl ?_
                have lp115_17 : ∀ (nlp115_17 : Nat) (i15 : Int) (m16 : zM), zInv m16 → zFr W_187 m0 m16 → m16 70 823 = f8 → 0 ≤ i15 → i15 ≤ 60 → (60 - i15).toNat < nlp115_17 → zW E (d) 187 115 [(2, 69), (0, i15), (9, 0), (9, 0)] [] m16 Q := by
                  intro nlp115_17
                  induction nlp115_17 with
                  | zero =>
                    intros
                    exact absurd (by assumption : _ < 0) (Nat.not_lt_zero _)
                  | succ nlp115_17 ihlp115_17 =>
                    intro i15 m16 hIm16 hFm16 km16_70_823 li15 ui15 hmlp115_17
                    refine zw_3 zr_187_115 rfl ?_
                    refine zw_7 zr_187_116 rfl ?_
                    refine zw_C zr_187_117 (Or.inl rfl) zm_142 rfl rfl ⟨Nat.le_of_ble_eq_true rfl, Nat.le_of_ble_eq_true rfl, Nat.le_of_ble_eq_true rfl, rfl, by decide⟩ (by omega) (P := (fun v m' => zW E (d) 187 120 [(2, 69), (0, i15), (9, 0), (9, 0)] (if v.1 = 9 then [(0, i15)] else v :: [(0, i15)]) m' Q)) ?_ (fun _ _ h => h)
                    generalize hQ1 : (fun v m' => zW E (d) 187 120 [(2, 69), (0, i15), (9, 0), (9, 0)] (if v.1 = 9 then [(0, i15)] else v :: [(0, i15)]) m' Q) = Q1
                    show zW E (d - 1) 142 0 [(2, 69)] [] m16 Q1
                    refine zw_7 zr_142_0 rfl ?_
                    refine zw_46r (s := 70) zr_142_1 rfl rfl rfl rfl ?_
                    refine zw_push zr_142_4 ?_
                    refine zw_48k (c := 70) (len := 826) zr_142_7 rfl rfl (by omega) (by omega) (show (823 : Int).toNat = 823 by omega) km16_70_823 ?_
                    refine zw_R zr_142_8 (by decide) zm_142 (v := (0, f8)) rfl ?_
                    rw [← hQ1]
                    show zW E (d) 187 120 [(2, 69), (0, i15), (9, 0), (9, 0)] [(0, f8), (0, i15)] m16 Q
                    refine zw_41_3 zr_187_120 ?_ ?_
                    · intro h19
                      refine zw_push zr_187_201 ?_
                      refine zw_R zr_187_204 (by decide) zm_187 (v := (1, (-5))) rfl ?_
                      rw [← hQ]; exact ⟨_, rfl, by omega, by omega, hIm16, hFm16⟩
                    · intro h20
                      refine zw_push zr_187_123 ?_
                      refine zw_9 (L' := [(2, 69), (0, i15), (0, 0), (9, 0)]) zr_187_124 (Nat.le_of_ble_eq_true rfl) rfl ?_
                      have lp125_23 : ∀ (nlp125_23 : Nat) (i21 : Int) (m22 : zM), zInv m22 → zFr W_187 m0 m22 → m22 70 823 = f8 → 0 ≤ i21 → i21 ≤ 59 → (59 - i21).toNat < nlp125_23 → zW E (d) 187 125 [(2, 69), (0, i15), (0, i21), (9, 0)] [] m22 Q := by
                        intro nlp125_23
                        induction nlp125_23 with
                        | zero =>
                          intros
                          exact absurd (by assumption : _ < 0) (Nat.not_lt_zero _)
                        | succ nlp125_23 ihlp125_23 =>
                          intro i21 m22 hIm22 hFm22 km22_70_823 li21 ui21 hmlp125_23
                          refine zw_3 zr_187_125 rfl ?_
                          refine zw_3 zr_187_126 rfl ?_
                          refine zw_41_3 zr_187_127 ?_ ?_
                          · intro h25
                            refine zw_15 (c := 1) (L' := [(2, 69), (0, (i15 + 1)), (0, i21), (9, 0)]) zr_187_195 rfl (by decide) (by omega) rfl ?_
                            refine zw_42 zr_187_198 ?_
                            exact zw_less (L := [(2, 69), (0, (i15 + 1)), (9, 0), (9, 0)]) ⟨Or.inr rfl, Or.inr rfl, Or.inl rfl, Or.inl rfl, trivial⟩ (ihlp115_17 ((i15 + 1)) m22 hIm22 hFm22  km22_70_823 (by omega) (by omega)  (by omega))
                          · intro h26
                            refine zw_push zr_187_130 ?_
                            refine zw_9 (L' := [(2, 69), (0, i15), (0, i21), (0, 0)]) zr_187_131 (Nat.le_of_ble_eq_true rfl) rfl ?_
                            have lp132_29 : ∀ (nlp132_29 : Nat) (i27 : Int) (m28 : zM), zInv m28 → zFr W_187 m0 m28 → m28 70 823 = f8 → 0 ≤ i27 → i27 ≤ 59 → (59 - i27).toNat < nlp132_29 → zW E (d) 187 132 [(2, 69), (0, i15), (0, i21), (0, i27)] [] m28 Q := by
                              intro nlp132_29
                              induction nlp132_29 with
                              | zero =>
                                intros
                                exact absurd (by assumption : _ < 0) (Nat.not_lt_zero _)
                              | succ nlp132_29 ihlp132_29 =>
                                intro i27 m28 hIm28 hFm28 km28_70_823 li27 ui27 hmlp132_29
                                refine zw_3 zr_187_132 rfl ?_
                                refine zw_3 zr_187_133 rfl ?_
                                refine zw_41_3 zr_187_134 ?_ ?_
                                · intro h31
                                  refine zw_15 (c := 1) (L' := [(2, 69), (0, i15), (0, (i21 + 1)), (0, i27)]) zr_187_189 rfl (by decide) (by omega) rfl ?_
                                  refine zw_42 zr_187_192 ?_
                                  exact zw_less (L := [(2, 69), (0, i15), (0, (i21 + 1)), (9, 0)]) ⟨Or.inr rfl, Or.inr rfl, Or.inr rfl, Or.inl rfl, trivial⟩ (ihlp125_23 ((i21 + 1)) m28 hIm28 hFm28  km28_70_823 (by omega) (by omega)  (by omega))
                                · intro h32
                                  refine zw_7 zr_187_137 rfl ?_
                                  refine zw_3 zr_187_138 rfl ?_
                                  refine zw_C zr_187_139 (Or.inl rfl) zm_181 rfl rfl ⟨Nat.le_of_ble_eq_true rfl, Nat.le_of_ble_eq_true rfl, Nat.le_of_ble_eq_true rfl, rfl, by decide⟩ (by omega) (P := (fun v m' => zW E (d) 187 142 [(2, 69), (0, i15), (0, i21), (0, i27)] (if v.1 = 9 then [] else v :: []) m' Q)) ?_ (fun _ _ h => h)
                                  generalize hQ1 : (fun v m' => zW E (d) 187 142 [(2, 69), (0, i15), (0, i21), (0, i27)] (if v.1 = 9 then [] else v :: []) m' Q) = Q1
                                  show zW E (d - 1) 181 0 [(2, 69), (0, i27)] [] m28 Q1
                                  refine zw_7 zr_181_0 rfl ?_
                                  refine zw_3 zr_181_1 rfl ?_
                                  refine zw_push zr_181_2 ?_
                                  refine zw_C zr_181_3 (Or.inl rfl) zm_144 rfl rfl ⟨Nat.le_of_ble_eq_true rfl, Nat.le_of_ble_eq_true rfl, Nat.le_of_ble_eq_true rfl, rfl, by decide⟩ (by omega) (P := (fun v m' => zW E (d - 1) 181 6 [(2, 69), (0, i27)] (if v.1 = 9 then [] else v :: []) m' Q1)) ?_ (fun _ _ h => h)
                                  generalize hQ2 : (fun v m' => zW E (d - 1) 181 6 [(2, 69), (0, i27)] (if v.1 = 9 then [] else v :: []) m' Q1) = Q2
                                  show zW E (d - 1 - 1) 144 0 [(2, 69), (0, i27), (0, 4)] [] m28 Q2
                                  refine zw_7 zr_144_0 rfl ?_
                                  refine zw_46r (s := 70) zr_144_1 rfl rfl rfl rfl ?_
                                  refine zw_push zr_144_4 ?_
                                  refine zw_push zr_144_6 ?_
                                  refine zw_3 zr_144_8 rfl ?_
                                  refine zw_18 zr_144_9 (by omega) ?_
                                  refine zw_16 zr_144_10 (by omega) ?_
                                  refine zw_3 zr_144_11 rfl ?_
                                  refine zw_16 zr_144_12 (by omega) ?_
                                  refine zw_48 (c := 70) (len := 826) zr_144_13 rfl rfl (by omega) (by omega) ?_
                                  intro x33 ex33
                                  have bx33 := ib_70_m4 hIm28 (k := (((90 + (6 * i27)) + 4)).toNat) (by omega)
                                  rw [← ex33] at bx33
                                  clear ex33
                                  refine zw_R zr_144_14 (by decide) zm_144 (v := (0, x33)) rfl ?_
                                  rw [← hQ2]
                                  show zW E (d - 1) 181 6 [(2, 69), (0, i27)] [(0, x33)] m28 Q1
                                  refine zw_40_4 zr_181_6 ?_ ?_
                                  · intro h34
                                    refine zw_push zr_181_22 ?_
                                    refine zw_R zr_181_23 (by decide) zm_181 (v := (0, 0)) (zRetB (by omega)) ?_
                                    rw [← hQ1]
                                    show zW E (d) 187 142 [(2, 69), (0, i15), (0, i21), (0, i27)] [(0, 0)] m28 Q
                                    refine zw_40_1 zr_187_142 ?_ ?_
                                    · intro h35
                                      refine zw_15 (c := 1) (L' := [(2, 69), (0, i15), (0, i21), (0, (i27 + 1))]) zr_187_183 rfl (by decide) (by omega) rfl ?_
                                      refine zw_42 zr_187_186 ?_
                                      exact zw_less (L := [(2, 69), (0, i15), (0, i21), (0, (i27 + 1))]) ⟨Or.inr rfl, Or.inr rfl, Or.inr rfl, Or.inr rfl, trivial⟩ (ihlp132_29 ((i27 + 1)) m28 hIm28 hFm28  km28_70_823 (by omega) (by omega)  (by omega))
                                    · intro h36; omega
                                  · intro h37
                                    refine zw_7 zr_181_9 rfl ?_
                                    refine zw_3 zr_181_10 rfl ?_
                                    refine zw_push zr_181_11 ?_
                                    refine zw_C zr_181_12 (Or.inl rfl) zm_144 rfl rfl ⟨Nat.le_of_ble_eq_true rfl, Nat.le_of_ble_eq_true rfl, Nat.le_of_ble_eq_true rfl, rfl, by decide⟩ (by omega) (P := (fun v m' => zW E (d - 1) 181 15 [(2, 69), (0, i27)] (if v.1 = 9 then [] else v :: []) m' Q1)) ?_ (fun _ _ h => h)
                                    generalize hQ2 : (fun v m' => zW E (d - 1) 181 15 [(2, 69), (0, i27)] (if v.1 = 9 then [] else v :: []) m' Q1) = Q2
                                    show zW E (d - 1 - 1) 144 0 [(2, 69), (0, i27), (0, 5)] [] m28 Q2
                                    refine zw_7 zr_144_0 rfl ?_
                                    refine zw_46r (s := 70) zr_144_1 rfl rfl rfl rfl ?_
                                    refine zw_push zr_144_4 ?_
                                    refine zw_push zr_144_6 ?_
                                    refine zw_3 zr_144_8 rfl ?_
                                    refine zw_18 zr_144_9 (by omega) ?_
                                    refine zw_16 zr_144_10 (by omega) ?_
                                    refine zw_3 zr_144_11 rfl ?_
                                    refine zw_16 zr_144_12 (by omega) ?_
                                    refine zw_48 (c := 70) (len := 826) zr_144_13 rfl rfl (by omega) (by omega) ?_
                                    intro x38 ex38
                                    have bx38 := ib_70_m5 hIm28 (k := (((90 + (6 * i27)) + 5)).toNat) (by omega)
                                    rw [← ex38] at bx38
                                    clear ex38
                                    refine zw_R zr_144_14 (by decide) zm_144 (v := (0, x38)) rfl ?_
                                    rw [← hQ2]
                                    show zW E (d - 1) 181 15 [(2, 69), (0, i27)] [(0, x38)] m28 Q1
                                    refine zw_40_4 zr_181_15 ?_ ?_
                                    · intro h39
                                      refine zw_push zr_181_22 ?_
                                      refine zw_R zr_181_23 (by decide) zm_181 (v := (0, 0)) (zRetB (by omega)) ?_
                                      rw [← hQ1]
                                      show zW E (d) 187 142 [(2, 69), (0, i15), (0, i21), (0, i27)] [(0, 0)] m28 Q
                                      refine zw_40_1 zr_187_142 ?_ ?_
                                      · intro h40
                                        refine zw_15 (c := 1) (L' := [(2, 69), (0, i15), (0, i21), (0, (i27 + 1))]) zr_187_183 rfl (by decide) (by omega) rfl ?_
                                        refine zw_42 zr_187_186 ?_
                                        exact zw_less (L := [(2, 69), (0, i15), (0, i21), (0, (i27 + 1))]) ⟨Or.inr rfl, Or.inr rfl, Or.inr rfl, Or.inr rfl, trivial⟩ (ihlp132_29 ((i27 + 1)) m28 hIm28 hFm28  km28_70_823 (by omega) (by omega)  (by omega))
                                      · intro h41; omega
                                    · intro h42
                                      refine zw_push zr_181_18 ?_
                                      refine zw_42 zr_181_19 ?_
                                      refine zw_R zr_181_23 (by decide) zm_181 (v := (0, 1)) (zRetB (by omega)) ?_
                                      rw [← hQ1]
                                      show zW E (d) 187 142 [(2, 69), (0, i15), (0, i21), (0, i27)] [(0, 1)] m28 Q
                                      refine zw_40_1 zr_187_142 ?_ ?_
                                      · intro h43; omega
                                      · intro h44
                                        refine zw_7 zr_187_145 rfl ?_
                                        refine zw_3 zr_187_146 rfl ?_
                                        refine zw_C zr_187_147 (Or.inl rfl) zm_181 rfl rfl ⟨Nat.le_of_ble_eq_true rfl, Nat.le_of_ble_eq_true rfl, Nat.le_of_ble_eq_true rfl, rfl, by decide⟩ (by omega) (P := (fun v m' => zW E (d) 187 150 [(2, 69), (0, i15), (0, i21), (0, i27)] (if v.1 = 9 then [] else v :: []) m' Q)) ?_ (fun _ _ h => h)
                                        generalize hQ1 : (fun v m' => zW E (d) 187 150 [(2, 69), (0, i15), (0, i21), (0, i27)] (if v.1 = 9 then [] else v :: []) m' Q) = Q1
                                        show zW E (d - 1) 181 0 [(2, 69), (0, i21)] [] m28 Q1
                                        refine zw_7 zr_181_0 rfl ?_
                                        refine zw_3 zr_181_1 rfl ?_
                                        refine zw_push zr_181_2 ?_
                                        refine zw_C zr_181_3 (Or.inl rfl) zm_144 rfl rfl ⟨Nat.le_of_ble_eq_true rfl, Nat.le_of_ble_eq_true rfl, Nat.le_of_ble_eq_true rfl, rfl, by decide⟩ (by omega) (P := (fun v m' => zW E (d - 1) 181 6 [(2, 69), (0, i21)] (if v.1 = 9 then [] else v :: []) m' Q1)) ?_ (fun _ _ h => h)
                                        generalize hQ2 : (fun v m' => zW E (d - 1) 181 6 [(2, 69), (0, i21)] (if v.1 = 9 then [] else v :: []) m' Q1) = Q2
                                        show zW E (d - 1 - 1) 144 0 [(2, 69), (0, i21), (0, 4)] [] m28 Q2
                                        refine zw_7 zr_144_0 rfl ?_
                                        refine zw_46r (s := 70) zr_144_1 rfl rfl rfl rfl ?_
                                        refine zw_push zr_144_4 ?_
                                        refine zw_push zr_144_6 ?_
                                        refine zw_3 zr_144_8 rfl ?_
                                        refine zw_18 zr_144_9 (by omega) ?_
                                        refine zw_16 zr_144_10 (by omega) ?_
                                        refine zw_3 zr_144_11 rfl ?_
                                        refine zw_16 zr_144_12 (by omega) ?_
                                        refine zw_48 (c := 70) (len := 826) zr_144_13 rfl rfl (by omega) (by omega) ?_
                                        intro x45 ex45
                                        have bx45 := ib_70_m4 hIm28 (k := (((90 + (6 * i21)) + 4)).toNat) (by omega)
                                        rw [← ex45] at bx45
                                        clear ex45
                                        refine zw_R zr_144_14 (by decide) zm_144 (v := (0, x45)) rfl ?_
                                        rw [← hQ2]
                                        show zW E (d - 1) 181 6 [(2, 69), (0, i21)] [(0, x45)] m28 Q1
                                        refine zw_40_4 zr_181_6 ?_ ?_
                                        · intro h46
                                          refine zw_push zr_181_22 ?_
                                          refine zw_R zr_181_23 (by decide) zm_181 (v := (0, 0)) (zRetB (by omega)) ?_
                                          rw [← hQ1]
                                          show zW E (d) 187 150 [(2, 69), (0, i15), (0, i21), (0, i27)] [(0, 0)] m28 Q
                                          refine zw_40_1 zr_187_150 ?_ ?_
                                          · intro h47
                                            refine zw_15 (c := 1) (L' := [(2, 69), (0, i15), (0, i21), (0, (i27 + 1))]) zr_187_183 rfl (by decide) (by omega) rfl ?_
                                            refine zw_42 zr_187_186 ?_
                                            exact zw_less (L := [(2, 69), (0, i15), (0, i21), (0, (i27 + 1))]) ⟨Or.inr rfl, Or.inr rfl, Or.inr rfl, Or.inr rfl, trivial⟩ (ihlp132_29 ((i27 + 1)) m28 hIm28 hFm28  km28_70_823 (by omega) (by omega)  (by omega))
                                          · intro h48; omega
                                        · intro h49
                                          refine zw_7 zr_181_9 rfl ?_
                                          refine zw_3 zr_181_10 rfl ?_
                                          refine zw_push zr_181_11 ?_
                                          refine zw_C zr_181_12 (Or.inl rfl) zm_144 rfl rfl ⟨Nat.le_of_ble_eq_true rfl, Nat.le_of_ble_eq_true rfl, Nat.le_of_ble_eq_true rfl, rfl, by decide⟩ (by omega) (P := (fun v m' => zW E (d - 1) 181 15 [(2, 69), (0, i21)] (if v.1 = 9 then [] else v :: []) m' Q1)) ?_ (fun _ _ h => h)
                                          generalize hQ2 : (fun v m' => zW E (d - 1) 181 15 [(2, 69), (0, i21)] (if v.1 = 9 then [] else v :: []) m' Q1) = Q2
                                          show zW E (d - 1 - 1) 144 0 [(2, 69), (0, i21), (0, 5)] [] m28 Q2
                                          refine zw_7 zr_144_0 rfl ?_
                                          refine zw_46r (s := 70) zr_144_1 rfl rfl rfl rfl ?_
                                          refine zw_push zr_144_4 ?_
                                          refine zw_push zr_144_6 ?_
                                          refine zw_3 zr_144_8 rfl ?_
                                          refine zw_18 zr_144_9 (by omega) ?_
                                          refine zw_16 zr_144_10 (by omega) ?_
                                          refine zw_3 zr_144_11 rfl ?_
                                          refine zw_16 zr_144_12 (by omega) ?_
                                          refine zw_48 (c := 70) (len := 826) zr_144_13 rfl rfl (by omega) (by omega) ?_
                                          intro x50 ex50
                                          have bx50 := ib_70_m5 hIm28 (k := (((90 + (6 * i21)) + 5)).toNat) (by omega)
                                          rw [← ex50] at bx50
                                          clear ex50
                                          refine zw_R zr_144_14 (by decide) zm_144 (v := (0, x50)) rfl ?_
                                          rw [← hQ2]
                                          show zW E (d - 1) 181 15 [(2, 69), (0, i21)] [(0, x50)] m28 Q1
                                          refine zw_40_4 zr_181_15 ?_ ?_
                                          · intro h51
                                            refine zw_push zr_181_22 ?_
                                            refine zw_R zr_181_23 (by decide) zm_181 (v := (0, 0)) (zRetB (by omega)) ?_
                                            rw [← hQ1]
                                            show zW E (d) 187 150 [(2, 69), (0, i15), (0, i21), (0, i27)] [(0, 0)] m28 Q
                                            refine zw_40_1 zr_187_150 ?_ ?_
                                            · intro h52
                                              refine zw_15 (c := 1) (L' := [(2, 69), (0, i15), (0, i21), (0, (i27 + 1))]) zr_187_183 rfl (by decide) (by omega) rfl ?_
                                              refine zw_42 zr_187_186 ?_
                                              exact zw_less (L := [(2, 69), (0, i15), (0, i21), (0, (i27 + 1))]) ⟨Or.inr rfl, Or.inr rfl, Or.inr rfl, Or.inr rfl, trivial⟩ (ihlp132_29 ((i27 + 1)) m28 hIm28 hFm28  km28_70_823 (by omega) (by omega)  (by omega))
                                            · intro h53; omega
                                          · intro h54
                                            refine zw_push zr_181_18 ?_
                                            refine zw_42 zr_181_19 ?_
                                            refine zw_R zr_181_23 (by decide) zm_181 (v := (0, 1)) (zRetB (by omega)) ?_
                                            rw [← hQ1]
                                            show zW E (d) 187 150 [(2, 69), (0, i15), (0, i21), (0, i27)] [(0, 1)] m28 Q
                                            refine zw_40_1 zr_187_150 ?_ ?_
                                            · intro h55; omega
                                            · intro h56
                                              refine zw_7 zr_187_153 rfl ?_
                                              refine zw_3 zr_187_154 rfl ?_
                                              refine zw_C zr_187_155 (Or.inl rfl) zm_181 rfl rfl ⟨Nat.le_of_ble_eq_true rfl, Nat.le_of_ble_eq_true rfl, Nat.le_of_ble_eq_true rfl, rfl, by decide⟩ (by omega) (P := (fun v m' => zW E (d) 187 158 [(2, 69), (0, i15), (0, i21), (0, i27)] (if v.1 = 9 then [] else v :: []) m' Q)) ?_ (fun _ _ h => h)
                                              generalize hQ1 : (fun v m' => zW E (d) 187 158 [(2, 69), (0, i15), (0, i21), (0, i27)] (if v.1 = 9 then [] else v :: []) m' Q) = Q1
                                              show zW E (d - 1) 181 0 [(2, 69), (0, i15)] [] m28 Q1
                                              refine zw_7 zr_181_0 rfl ?_
                                              refine zw_3 zr_181_1 rfl ?_
                                              refine zw_push zr_181_2 ?_
                                              refine zw_C zr_181_3 (Or.inl rfl) zm_144 rfl rfl ⟨Nat.le_of_ble_eq_true rfl, Nat.le_of_ble_eq_true rfl, Nat.le_of_ble_eq_true rfl, rfl, by decide⟩ (by omega) (P := (fun v m' => zW E (d - 1) 181 6 [(2, 69), (0, i15)] (if v.1 = 9 then [] else v :: []) m' Q1)) ?_ (fun _ _ h => h)
                                              generalize hQ2 : (fun v m' => zW E (d - 1) 181 6 [(2, 69), (0, i15)] (if v.1 = 9 then [] else v :: []) m' Q1) = Q2
                                              show zW E (d - 1 - 1) 144 0 [(2, 69), (0, i15), (0, 4)] [] m28 Q2
                                              refine zw_7 zr_144_0 rfl ?_
                                              refine zw_46r (s := 70) zr_144_1 rfl rfl rfl rfl ?_
                                              refine zw_push zr_144_4 ?_
                                              refine zw_push zr_144_6 ?_
                                              refine zw_3 zr_144_8 rfl ?_
                                              refine zw_18 zr_144_9 (by omega) ?_
                                              refine zw_16 zr_144_10 (by omega) ?_
                                              refine zw_3 zr_144_11 rfl ?_
                                              refine zw_16 zr_144_12 (by omega) ?_
                                              refine zw_48 (c := 70) (len := 826) zr_144_13 rfl rfl (by omega) (by omega) ?_
                                              intro x57 ex57
                                              have bx57 := ib_70_m4 hIm28 (k := (((90 + (6 * i15)) + 4)).toNat) (by omega)
                                              rw [← ex57] at bx57
                                              clear ex57
                                              refine zw_R zr_144_14 (by decide) zm_144 (v := (0, x57)) rfl ?_
                                              rw [← hQ2]
                                              show zW E (d - 1) 181 6 [(2, 69), (0, i15)] [(0, x57)] m28 Q1
                                              refine zw_40_4 zr_181_6 ?_ ?_
                                              · intro h58
                                                refine zw_push zr_181_22 ?_
                                                refine zw_R zr_181_23 (by decide) zm_181 (v := (0, 0)) (zRetB (by omega)) ?_
                                                rw [← hQ1]
                                                show zW E (d) 187 158 [(2, 69), (0, i15), (0, i21), (0, i27)] [(0, 0)] m28 Q
                                                refine zw_40_1 zr_187_158 ?_ ?_
                                                · intro h59
                                                  refine zw_15 (c := 1) (L' := [(2, 69), (0, i15), (0, i21), (0, (i27 + 1))]) zr_187_183 rfl (by decide) (by omega) rfl ?_
                                                  refine zw_42 zr_187_186 ?_
                                                  exact zw_less (L := [(2, 69), (0, i15), (0, i21), (0, (i27 + 1))]) ⟨Or.inr rfl, Or.inr rfl, Or.inr rfl, Or.inr rfl, trivial⟩ (ihlp132_29 ((i27 + 1)) m28 hIm28 hFm28  km28_70_823 (by omega) (by omega)  (by omega))
                                                · intro h60; omega
                                              · intro h61
                                                refine zw_7 zr_181_9 rfl ?_
                                                refine zw_3 zr_181_10 rfl ?_
                                                refine zw_push zr_181_11 ?_
                                                refine zw_C zr_181_12 (Or.inl rfl) zm_144 rfl rfl ⟨Nat.le_of_ble_eq_true rfl, Nat.le_of_ble_eq_true rfl, Nat.le_of_ble_eq_true rfl, rfl, by decide⟩ (by omega) (P := (fun v m' => zW E (d - 1) 181 15 [(2, 69), (0, i15)] (if v.1 = 9 then [] else v :: []) m' Q1)) ?_ (fun _ _ h => h)
                                                generalize hQ2 : (fun v m' => zW E (d - 1) 181 15 [(2, 69), (0, i15)] (if v.1 = 9 then [] else v :: []) m' Q1) = Q2
                                                show zW E (d - 1 - 1) 144 0 [(2, 69), (0, i15), (0, 5)] [] m28 Q2
                                                refine zw_7 zr_144_0 rfl ?_
                                                refine zw_46r (s := 70) zr_144_1 rfl rfl rfl rfl ?_
                                                refine zw_push zr_144_4 ?_
                                                refine zw_push zr_144_6 ?_
                                                refine zw_3 zr_144_8 rfl ?_
                                                refine zw_18 zr_144_9 (by omega) ?_
                                                refine zw_16 zr_144_10 (by omega) ?_
                                                refine zw_3 zr_144_11 rfl ?_
                                                refine zw_16 zr_144_12 (by omega) ?_
                                                refine zw_48 (c := 70) (len := 826) zr_144_13 rfl rfl (by omega) (by omega) ?_
                                                intro x62 ex62
                                                have bx62 := ib_70_m5 hIm28 (k := (((90 + (6 * i15)) + 5)).toNat) (by omega)
                                                rw [← ex62] at bx62
                                                clear ex62
                                                refine zw_R zr_144_14 (by decide) zm_144 (v := (0, x62)) rfl ?_
                                                rw [← hQ2]
                                                show zW E (d - 1) 181 15 [(2, 69), (0, i15)] [(0, x62)] m28 Q1
                                                refine zw_40_4 zr_181_15 ?_ ?_
                                                · intro h63
                                                  refine zw_push zr_181_22 ?_
                                                  refine zw_R zr_181_23 (by decide) zm_181 (v := (0, 0)) (zRetB (by omega)) ?_
                                                  rw [← hQ1]
                                                  show zW E (d) 187 158 [(2, 69), (0, i15), (0, i21), (0, i27)] [(0, 0)] m28 Q
                                                  refine zw_40_1 zr_187_158 ?_ ?_
                                                  · intro h64
                                                    refine zw_15 (c := 1) (L' := [(2, 69), (0, i15), (0, i21), (0, (i27 + 1))]) zr_187_183 rfl (by decide) (by omega) rfl ?_
                                                    refine zw_42 zr_187_186 ?_
                                                    exact zw_less (L := [(2, 69), (0, i15), (0, i21), (0, (i27 + 1))]) ⟨Or.inr rfl, Or.inr rfl, Or.inr rfl, Or.inr rfl, trivial⟩ (ihlp132_29 ((i27 + 1)) m28 hIm28 hFm28  km28_70_823 (by omega) (by omega)  (by omega))
                                                  · intro h65; omega
                                                · intro h66
                                                  refine zw_push zr_181_18 ?_
                                                  refine zw_42 zr_181_19 ?_
                                                  refine zw_R zr_181_23 (by decide) zm_181 (v := (0, 1)) (zRetB (by omega)) ?_
                                                  rw [← hQ1]
                                                  show zW E (d) 187 158 [(2, 69), (0, i15), (0, i21), (0, i27)] [(0, 1)] m28 Q
                                                  refine zw_40_1 zr_187_158 ?_ ?_
                                                  · intro h67; omega
                                                  · intro h68
                                                    refine zw_7 zr_187_161 rfl ?_
                                                    refine zw_3 zr_187_162 rfl ?_
                                                    refine zw_3 zr_187_163 rfl ?_
                                                    refine zw_3 zr_187_164 rfl ?_
                                                    refine zw_C zr_187_165 (Or.inl rfl) zm_184 rfl rfl ⟨Nat.le_of_ble_eq_true rfl, Nat.le_of_ble_eq_true rfl, Nat.le_of_ble_eq_true rfl, rfl, by decide⟩ (by omega) (th_184 (d := d - 1) (by omega) hIm28 (a0 := i27) (a1 := i21) (a2 := i15)      (by omega) (by omega) (by omega) ) ?_
                                                    rintro _ m69 ⟨r70, rfl, hr70a, hr70b, hIm69, gm69⟩
                                                    have hFm69 : zFr W_187 m0 m69 := hFm28.trans gm69 rfl
                                                    have km69_70_823 : m69 70 823 = f8 := (gm69 70 823 rfl).trans km28_70_823
                                                    show zW E (d) 187 168 [(2, 69), (0, i15), (0, i21), (0, i27)] [(0, r70)] m69 Q
                                                    refine zw_40_1 zr_187_168 ?_ ?_
                                                    · intro h71
                                                      refine zw_15 (c := 1) (L' := [(2, 69), (0, i15), (0, i21), (0, (i27 + 1))]) zr_187_183 rfl (by decide) (by omega) rfl ?_
                                                      refine zw_42 zr_187_186 ?_
                                                      exact zw_less (L := [(2, 69), (0, i15), (0, i21), (0, (i27 + 1))]) ⟨Or.inr rfl, Or.inr rfl, Or.inr rfl, Or.inr rfl, trivial⟩ (ihlp132_29 ((i27 + 1)) m69 hIm69 hFm69  km69_70_823 (by omega) (by omega)  (by omega))
                                                    · intro h72
                                                      refine zw_push zr_187_171 ?_
                                                      refine zw_3 zr_187_172 rfl ?_
                                                      refine zw_33p zr_187_173 (by omega) ?_
                                                      intro x73 ex73 hx73a hx73b
                                                      refine zw_push zr_187_174 ?_
                                                      refine zw_3 zr_187_175 rfl ?_
                                                      refine zw_33p zr_187_176 (by omega) ?_
                                                      intro x74 ex74 hx74a hx74b
                                                      refine zw_31h zr_187_177 ?_
                                                      intro x75 hx75a hx75b
                                                      refine zw_push zr_187_178 ?_
                                                      refine zw_3 zr_187_179 rfl ?_
                                                      refine zw_33p zr_187_180 (by omega) ?_
                                                      intro x76 ex76 hx76a hx76b
                                                      refine zw_31h zr_187_181 ?_
                                                      intro x77 hx77a hx77b
                                                      refine zw_R zr_187_182 (by decide) zm_187 (v := (1, x77)) rfl ?_
                                                      rw [← hQ]; exact ⟨_, rfl, by omega, by omega, hIm69, hFm69⟩
                            exact lp132_29 _ (0) m22 hIm22 hFm22  km22_70_823 (by omega) (by omega)  (Nat.lt_succ_self _)
                      exact lp125_23 _ (0) m16 hIm16 hFm16  km16_70_823 (by omega) (by omega)  (Nat.lt_succ_self _)
                exact lp115_17 _ (0) m11 hIm11 hFm11  km11_70_823 (by omega) (by omega)  (Nat.lt_succ_self _)
              · intro h78
                refine zw_push zr_187_60 ?_
                refine zw_9 (L' := [(2, 69), (0, i10), (0, 0), (9, 0)]) zr_187_61 (Nat.le_of_ble_eq_true rfl) rfl ?_
                have lp62_81 : ∀ (nlp62_81 : Nat) (i79 : Int) (m80 : zM), zInv m80 → zFr W_187 m0 m80 → m80 70 823 = f8 → 0 ≤ i79 → i79 ≤ 59 → (59 - i79).toNat < nlp62_81 → zW E (d) 187 62 [(2, 69), (0, i10), (0, i79), (9, 0)] [] m80 Q := by
                  intro nlp62_81
                  induction nlp62_81 with
                  | zero =>
                    intros
                    exact absurd (by assumption : _ < 0) (Nat.not_lt_zero _)
                  | succ nlp62_81 ihlp62_81 =>
                    intro i79 m80 hIm80 hFm80 km80_70_823 li79 ui79 hmlp62_81
                    refine zw_3 zr_187_62 rfl ?_
                    refine zw_3 zr_187_63 rfl ?_
                    refine zw_41_3 zr_187_64 ?_ ?_
                    · intro h83
                      refine zw_15 (c := 1) (L' := [(2, 69), (0, (i10 + 1)), (0, i79), (9, 0)]) zr_187_107 rfl (by decide) (by omega) rfl ?_
                      refine zw_42 zr_187_110 ?_
                      exact zw_less (L := [(2, 69), (0, (i10 + 1)), (9, 0), (9, 0)]) ⟨Or.inr rfl, Or.inr rfl, Or.inl rfl, Or.inl rfl, trivial⟩ (ihlp52_12 ((i10 + 1)) m80 hIm80 hFm80  km80_70_823 (by omega) (by omega)  (by omega))
                    · intro h84
                      refine zw_7 zr_187_67 rfl ?_
                      refine zw_3 zr_187_68 rfl ?_
                      refine zw_C zr_187_69 (Or.inl rfl) zm_181 rfl rfl ⟨Nat.le_of_ble_eq_true rfl, Nat.le_of_ble_eq_true rfl, Nat.le_of_ble_eq_true rfl, rfl, by decide⟩ (by omega) (P := (fun v m' => zW E (d) 187 72 [(2, 69), (0, i10), (0, i79), (9, 0)] (if v.1 = 9 then [] else v :: []) m' Q)) ?_ (fun _ _ h => h)
                      generalize hQ1 : (fun v m' => zW E (d) 187 72 [(2, 69), (0, i10), (0, i79), (9, 0)] (if v.1 = 9 then [] else v :: []) m' Q) = Q1
                      show zW E (d - 1) 181 0 [(2, 69), (0, i79)] [] m80 Q1
                      refine zw_7 zr_181_0 rfl ?_
                      refine zw_3 zr_181_1 rfl ?_
                      refine zw_push zr_181_2 ?_
                      refine zw_C zr_181_3 (Or.inl rfl) zm_144 rfl rfl ⟨Nat.le_of_ble_eq_true rfl, Nat.le_of_ble_eq_true rfl, Nat.le_of_ble_eq_true rfl, rfl, by decide⟩ (by omega) (P := (fun v m' => zW E (d - 1) 181 6 [(2, 69), (0, i79)] (if v.1 = 9 then [] else v :: []) m' Q1)) ?_ (fun _ _ h => h)
                      generalize hQ2 : (fun v m' => zW E (d - 1) 181 6 [(2, 69), (0, i79)] (if v.1 = 9 then [] else v :: []) m' Q1) = Q2
                      show zW E (d - 1 - 1) 144 0 [(2, 69), (0, i79), (0, 4)] [] m80 Q2
                      refine zw_7 zr_144_0 rfl ?_
                      refine zw_46r (s := 70) zr_144_1 rfl rfl rfl rfl ?_
                      refine zw_push zr_144_4 ?_
                      refine zw_push zr_144_6 ?_
                      refine zw_3 zr_144_8 rfl ?_
                      refine zw_18 zr_144_9 (by omega) ?_
                      refine zw_16 zr_144_10 (by omega) ?_
                      refine zw_3 zr_144_11 rfl ?_
                      refine zw_16 zr_144_12 (by omega) ?_
                      refine zw_48 (c := 70) (len := 826) zr_144_13 rfl rfl (by omega) (by omega) ?_
                      intro x85 ex85
                      have bx85 := ib_70_m4 hIm80 (k := (((90 + (6 * i79)) + 4)).toNat) (by omega)
                      rw [← ex85] at bx85
                      clear ex85
                      refine zw_R zr_144_14 (by decide) zm_144 (v := (0, x85)) rfl ?_
                      rw [← hQ2]
                      show zW E (d - 1) 181 6 [(2, 69), (0, i79)] [(0, x85)] m80 Q1
                      refine zw_40_4 zr_181_6 ?_ ?_
                      · intro h86
                        refine zw_push zr_181_22 ?_
                        refine zw_R zr_181_23 (by decide) zm_181 (v := (0, 0)) (zRetB (by omega)) ?_
                        rw [← hQ1]
                        show zW E (d) 187 72 [(2, 69), (0, i10), (0, i79), (9, 0)] [(0, 0)] m80 Q
                        refine zw_40_1 zr_187_72 ?_ ?_
                        · intro h87
                          refine zw_15 (c := 1) (L' := [(2, 69), (0, i10), (0, (i79 + 1)), (9, 0)]) zr_187_101 rfl (by decide) (by omega) rfl ?_
                          refine zw_42 zr_187_104 ?_
                          exact zw_less (L := [(2, 69), (0, i10), (0, (i79 + 1)), (9, 0)]) ⟨Or.inr rfl, Or.inr rfl, Or.inr rfl, Or.inl rfl, trivial⟩ (ihlp62_81 ((i79 + 1)) m80 hIm80 hFm80  km80_70_823 (by omega) (by omega)  (by omega))
                        · intro h88; omega
                      · intro h89
                        refine zw_7 zr_181_9 rfl ?_
                        refine zw_3 zr_181_10 rfl ?_
                        refine zw_push zr_181_11 ?_
                        refine zw_C zr_181_12 (Or.inl rfl) zm_144 rfl rfl ⟨Nat.le_of_ble_eq_true rfl, Nat.le_of_ble_eq_true rfl, Nat.le_of_ble_eq_true rfl, rfl, by decide⟩ (by omega) (P := (fun v m' => zW E (d - 1) 181 15 [(2, 69), (0, i79)] (if v.1 = 9 then [] else v :: []) m' Q1)) ?_ (fun _ _ h => h)
                        generalize hQ2 : (fun v m' => zW E (d - 1) 181 15 [(2, 69), (0, i79)] (if v.1 = 9 then [] else v :: []) m' Q1) = Q2
                        show zW E (d - 1 - 1) 144 0 [(2, 69), (0, i79), (0, 5)] [] m80 Q2
                        refine zw_7 zr_144_0 rfl ?_
                        refine zw_46r (s := 70) zr_144_1 rfl rfl rfl rfl ?_
                        refine zw_push zr_144_4 ?_
                        refine zw_push zr_144_6 ?_
                        refine zw_3 zr_144_8 rfl ?_
                        refine zw_18 zr_144_9 (by omega) ?_
                        refine zw_16 zr_144_10 (by omega) ?_
                        refine zw_3 zr_144_11 rfl ?_
                        refine zw_16 zr_144_12 (by omega) ?_
                        refine zw_48 (c := 70) (len := 826) zr_144_13 rfl rfl (by omega) (by omega) ?_
                        intro x90 ex90
                        have bx90 := ib_70_m5 hIm80 (k := (((90 + (6 * i79)) + 5)).toNat) (by omega)
                        rw [← ex90] at bx90
                        clear ex90
                        refine zw_R zr_144_14 (by decide) zm_144 (v := (0, x90)) rfl ?_
                        rw [← hQ2]
                        show zW E (d - 1) 181 15 [(2, 69), (0, i79)] [(0, x90)] m80 Q1
                        refine zw_40_4 zr_181_15 ?_ ?_
                        · intro h91
                          refine zw_push zr_181_22 ?_
                          refine zw_R zr_181_23 (by decide) zm_181 (v := (0, 0)) (zRetB (by omega)) ?_
                          rw [← hQ1]
                          show zW E (d) 187 72 [(2, 69), (0, i10), (0, i79), (9, 0)] [(0, 0)] m80 Q
                          refine zw_40_1 zr_187_72 ?_ ?_
                          · intro h92
                            refine zw_15 (c := 1) (L' := [(2, 69), (0, i10), (0, (i79 + 1)), (9, 0)]) zr_187_101 rfl (by decide) (by omega) rfl ?_
                            refine zw_42 zr_187_104 ?_
                            exact zw_less (L := [(2, 69), (0, i10), (0, (i79 + 1)), (9, 0)]) ⟨Or.inr rfl, Or.inr rfl, Or.inr rfl, Or.inl rfl, trivial⟩ (ihlp62_81 ((i79 + 1)) m80 hIm80 hFm80  km80_70_823 (by omega) (by omega)  (by omega))
                          · intro h93; omega
                        · intro h94
                          refine zw_push zr_181_18 ?_
                          refine zw_42 zr_181_19 ?_
                          refine zw_R zr_181_23 (by decide) zm_181 (v := (0, 1)) (zRetB (by omega)) ?_
                          rw [← hQ1]
                          show zW E (d) 187 72 [(2, 69), (0, i10), (0, i79), (9, 0)] [(0, 1)] m80 Q
                          refine zw_40_1 zr_187_72 ?_ ?_
                          · intro h95; omega
                          · intro h96
                            refine zw_7 zr_187_75 rfl ?_
                            refine zw_3 zr_187_76 rfl ?_
                            refine zw_C zr_187_77 (Or.inl rfl) zm_181 rfl rfl ⟨Nat.le_of_ble_eq_true rfl, Nat.le_of_ble_eq_true rfl, Nat.le_of_ble_eq_true rfl, rfl, by decide⟩ (by omega) (P := (fun v m' => zW E (d) 187 80 [(2, 69), (0, i10), (0, i79), (9, 0)] (if v.1 = 9 then [] else v :: []) m' Q)) ?_ (fun _ _ h => h)
                            generalize hQ1 : (fun v m' => zW E (d) 187 80 [(2, 69), (0, i10), (0, i79), (9, 0)] (if v.1 = 9 then [] else v :: []) m' Q) = Q1
                            show zW E (d - 1) 181 0 [(2, 69), (0, i10)] [] m80 Q1
                            refine zw_7 zr_181_0 rfl ?_
                            refine zw_3 zr_181_1 rfl ?_
                            refine zw_push zr_181_2 ?_
                            refine zw_C zr_181_3 (Or.inl rfl) zm_144 rfl rfl ⟨Nat.le_of_ble_eq_true rfl, Nat.le_of_ble_eq_true rfl, Nat.le_of_ble_eq_true rfl, rfl, by decide⟩ (by omega) (P := (fun v m' => zW E (d - 1) 181 6 [(2, 69), (0, i10)] (if v.1 = 9 then [] else v :: []) m' Q1)) ?_ (fun _ _ h => h)
                            generalize hQ2 : (fun v m' => zW E (d - 1) 181 6 [(2, 69), (0, i10)] (if v.1 = 9 then [] else v :: []) m' Q1) = Q2
                            show zW E (d - 1 - 1) 144 0 [(2, 69), (0, i10), (0, 4)] [] m80 Q2
                            refine zw_7 zr_144_0 rfl ?_
                            refine zw_46r (s := 70) zr_144_1 rfl rfl rfl rfl ?_
                            refine zw_push zr_144_4 ?_
                            refine zw_push zr_144_6 ?_
                            refine zw_3 zr_144_8 rfl ?_
                            refine zw_18 zr_144_9 (by omega) ?_
                            refine zw_16 zr_144_10 (by omega) ?_
                            refine zw_3 zr_144_11 rfl ?_
                            refine zw_16 zr_144_12 (by omega) ?_
                            refine zw_48 (c := 70) (len := 826) zr_144_13 rfl rfl (by omega) (by omega) ?_
                            intro x97 ex97
                            have bx97 := ib_70_m4 hIm80 (k := (((90 + (6 * i10)) + 4)).toNat) (by omega)
                            rw [← ex97] at bx97
                            clear ex97
                            refine zw_R zr_144_14 (by decide) zm_144 (v := (0, x97)) rfl ?_
                            rw [← hQ2]
                            show zW E (d - 1) 181 6 [(2, 69), (0, i10)] [(0, x97)] m80 Q1
                            refine zw_40_4 zr_181_6 ?_ ?_
                            · intro h98
                              refine zw_push zr_181_22 ?_
                              refine zw_R zr_181_23 (by decide) zm_181 (v := (0, 0)) (zRetB (by omega)) ?_
                              rw [← hQ1]
                              show zW E (d) 187 80 [(2, 69), (0, i10), (0, i79), (9, 0)] [(0, 0)] m80 Q
                              refine zw_40_1 zr_187_80 ?_ ?_
                              · intro h99
                                refine zw_15 (c := 1) (L' := [(2, 69), (0, i10), (0, (i79 + 1)), (9, 0)]) zr_187_101 rfl (by decide) (by omega) rfl ?_
                                refine zw_42 zr_187_104 ?_
                                exact zw_less (L := [(2, 69), (0, i10), (0, (i79 + 1)), (9, 0)]) ⟨Or.inr rfl, Or.inr rfl, Or.inr rfl, Or.inl rfl, trivial⟩ (ihlp62_81 ((i79 + 1)) m80 hIm80 hFm80  km80_70_823 (by omega) (by omega)  (by omega))
                              · intro h100; omega
                            · intro h101
                              refine zw_7 zr_181_9 rfl ?_
                              refine zw_3 zr_181_10 rfl ?_
                              refine zw_push zr_181_11 ?_
                              refine zw_C zr_181_12 (Or.inl rfl) zm_144 rfl rfl ⟨Nat.le_of_ble_eq_true rfl, Nat.le_of_ble_eq_true rfl, Nat.le_of_ble_eq_true rfl, rfl, by decide⟩ (by omega) (P := (fun v m' => zW E (d - 1) 181 15 [(2, 69), (0, i10)] (if v.1 = 9 then [] else v :: []) m' Q1)) ?_ (fun _ _ h => h)
                              generalize hQ2 : (fun v m' => zW E (d - 1) 181 15 [(2, 69), (0, i10)] (if v.1 = 9 then [] else v :: []) m' Q1) = Q2
                              show zW E (d - 1 - 1) 144 0 [(2, 69), (0, i10), (0, 5)] [] m80 Q2
                              refine zw_7 zr_144_0 rfl ?_
                              refine zw_46r (s := 70) zr_144_1 rfl rfl rfl rfl ?_
                              refine zw_push zr_144_4 ?_
                              refine zw_push zr_144_6 ?_
                              refine zw_3 zr_144_8 rfl ?_
                              refine zw_18 zr_144_9 (by omega) ?_
                              refine zw_16 zr_144_10 (by omega) ?_
                              refine zw_3 zr_144_11 rfl ?_
                              refine zw_16 zr_144_12 (by omega) ?_
                              refine zw_48 (c := 70) (len := 826) zr_144_13 rfl rfl (by omega) (by omega) ?_
                              intro x102 ex102
                              have bx102 := ib_70_m5 hIm80 (k := (((90 + (6 * i10)) + 5)).toNat) (by omega)
                              rw [← ex102] at bx102
                              clear ex102
                              refine zw_R zr_144_14 (by decide) zm_144 (v := (0, x102)) rfl ?_
                              rw [← hQ2]
                              show zW E (d - 1) 181 15 [(2, 69), (0, i10)] [(0, x102)] m80 Q1
                              refine zw_40_4 zr_181_15 ?_ ?_
                              · intro h103
                                refine zw_push zr_181_22 ?_
                                refine zw_R zr_181_23 (by decide) zm_181 (v := (0, 0)) (zRetB (by omega)) ?_
                                rw [← hQ1]
                                show zW E (d) 187 80 [(2, 69), (0, i10), (0, i79), (9, 0)] [(0, 0)] m80 Q
                                refine zw_40_1 zr_187_80 ?_ ?_
                                · intro h104
                                  refine zw_15 (c := 1) (L' := [(2, 69), (0, i10), (0, (i79 + 1)), (9, 0)]) zr_187_101 rfl (by decide) (by omega) rfl ?_
                                  refine zw_42 zr_187_104 ?_
                                  exact zw_less (L := [(2, 69), (0, i10), (0, (i79 + 1)), (9, 0)]) ⟨Or.inr rfl, Or.inr rfl, Or.inr rfl, Or.inl rfl, trivial⟩ (ihlp62_81 ((i79 + 1)) m80 hIm80 hFm80  km80_70_823 (by omega) (by omega)  (by omega))
                                · intro h105; omega
                              · intro h106
                                refine zw_push zr_181_18 ?_
                                refine zw_42 zr_181_19 ?_
                                refine zw_R zr_181_23 (by decide) zm_181 (v := (0, 1)) (zRetB (by omega)) ?_
                                rw [← hQ1]
                                show zW E (d) 187 80 [(2, 69), (0, i10), (0, i79), (9, 0)] [(0, 1)] m80 Q
                                refine zw_40_1 zr_187_80 ?_ ?_
                                · intro h107; omega
                                · intro h108
                                  refine zw_7 zr_187_83 rfl ?_
                                  refine zw_3 zr_187_84 rfl ?_
                                  refine zw_3 zr_187_85 rfl ?_
                                  refine zw_push zr_187_86 ?_
                                  refine zw_C zr_187_87 (Or.inl rfl) zm_184 rfl rfl ⟨Nat.le_of_ble_eq_true rfl, Nat.le_of_ble_eq_true rfl, Nat.le_of_ble_eq_true rfl, rfl, by decide⟩ (by omega) (th_184 (d := d - 1) (by omega) hIm80 (a0 := i79) (a1 := i10) (a2 := (-1))      (by omega) (by omega) (by omega) ) ?_
                                  rintro _ m109 ⟨r110, rfl, hr110a, hr110b, hIm109, gm109⟩
                                  have hFm109 : zFr W_187 m0 m109 := hFm80.trans gm109 rfl
                                  have km109_70_823 : m109 70 823 = f8 := (gm109 70 823 rfl).trans km80_70_823
                                  show zW E (d) 187 90 [(2, 69), (0, i10), (0, i79), (9, 0)] [(0, r110)] m109 Q
                                  refine zw_40_1 zr_187_90 ?_ ?_
                                  · intro h111
                                    refine zw_15 (c := 1) (L' := [(2, 69), (0, i10), (0, (i79 + 1)), (9, 0)]) zr_187_101 rfl (by decide) (by omega) rfl ?_
                                    refine zw_42 zr_187_104 ?_
                                    exact zw_less (L := [(2, 69), (0, i10), (0, (i79 + 1)), (9, 0)]) ⟨Or.inr rfl, Or.inr rfl, Or.inr rfl, Or.inl rfl, trivial⟩ (ihlp62_81 ((i79 + 1)) m109 hIm109 hFm109  km109_70_823 (by omega) (by omega)  (by omega))
                                  · intro h112
                                    refine zw_push zr_187_93 ?_
                                    refine zw_3 zr_187_94 rfl ?_
                                    refine zw_33p zr_187_95 (by omega) ?_
                                    intro x113 ex113 hx113a hx113b
                                    refine zw_push zr_187_96 ?_
                                    refine zw_3 zr_187_97 rfl ?_
                                    refine zw_33p zr_187_98 (by omega) ?_
                                    intro x114 ex114 hx114a hx114b
                                    refine zw_31h zr_187_99 ?_
                                    intro x115 hx115a hx115b
                                    refine zw_R zr_187_100 (by decide) zm_187 (v := (1, x115)) rfl ?_
                                    rw [← hQ]; exact ⟨_, rfl, by omega, by omega, hIm109, hFm109⟩
                exact lp62_81 _ (0) m11 hIm11 hFm11  km11_70_823 (by omega) (by omega)  (Nat.lt_succ_self _)
          exact lp52_12 _ (0) m5 hIm5 hFm5  ef8 (by omega) (by omega)  (Nat.lt_succ_self _)
        · intro h116
          refine zw_7 zr_187_22 rfl ?_
          refine zw_3 zr_187_23 rfl ?_
          refine zw_C zr_187_24 (Or.inl rfl) zm_181 rfl rfl ⟨Nat.le_of_ble_eq_true rfl, Nat.le_of_ble_eq_true rfl, Nat.le_of_ble_eq_true rfl, rfl, by decide⟩ (by omega) (P := (fun v m' => zW E (d) 187 27 [(2, 69), (0, i4), (9, 0), (9, 0)] (if v.1 = 9 then [] else v :: []) m' Q)) ?_ (fun _ _ h => h)
          generalize hQ1 : (fun v m' => zW E (d) 187 27 [(2, 69), (0, i4), (9, 0), (9, 0)] (if v.1 = 9 then [] else v :: []) m' Q) = Q1
          show zW E (d - 1) 181 0 [(2, 69), (0, i4)] [] m5 Q1
          refine zw_7 zr_181_0 rfl ?_
          refine zw_3 zr_181_1 rfl ?_
          refine zw_push zr_181_2 ?_
          refine zw_C zr_181_3 (Or.inl rfl) zm_144 rfl rfl ⟨Nat.le_of_ble_eq_true rfl, Nat.le_of_ble_eq_true rfl, Nat.le_of_ble_eq_true rfl, rfl, by decide⟩ (by omega) (P := (fun v m' => zW E (d - 1) 181 6 [(2, 69), (0, i4)] (if v.1 = 9 then [] else v :: []) m' Q1)) ?_ (fun _ _ h => h)
          generalize hQ2 : (fun v m' => zW E (d - 1) 181 6 [(2, 69), (0, i4)] (if v.1 = 9 then [] else v :: []) m' Q1) = Q2
          show zW E (d - 1 - 1) 144 0 [(2, 69), (0, i4), (0, 4)] [] m5 Q2
          refine zw_7 zr_144_0 rfl ?_
          refine zw_46r (s := 70) zr_144_1 rfl rfl rfl rfl ?_
          refine zw_push zr_144_4 ?_
          refine zw_push zr_144_6 ?_
          refine zw_3 zr_144_8 rfl ?_
          refine zw_18 zr_144_9 (by omega) ?_
          refine zw_16 zr_144_10 (by omega) ?_
          refine zw_3 zr_144_11 rfl ?_
          refine zw_16 zr_144_12 (by omega) ?_
          refine zw_48 (c := 70) (len := 826) zr_144_13 rfl rfl (by omega) (by omega) ?_
          intro x117 ex117
          have bx117 := ib_70_m4 hIm5 (k := (((90 + (6 * i4)) + 4)).toNat) (by omega)
          rw [← ex117] at bx117
          clear ex117
          refine zw_R zr_144_14 (by decide) zm_144 (v := (0, x117)) rfl ?_
          rw [← hQ2]
          show zW E (d - 1) 181 6 [(2, 69), (0, i4)] [(0, x117)] m5 Q1
          refine zw_40_4 zr_181_6 ?_ ?_
          · intro h118
            refine zw_push zr_181_22 ?_
            refine zw_R zr_181_23 (by decide) zm_181 (v := (0, 0)) (zRetB (by omega)) ?_
            rw [← hQ1]
            show zW E (d) 187 27 [(2, 69), (0, i4), (9, 0), (9, 0)] [(0, 0)] m5 Q
            refine zw_40_1 zr_187_27 ?_ ?_
            · intro h119
              refine zw_15 (c := 1) (L' := [(2, 69), (0, (i4 + 1)), (9, 0), (9, 0)]) zr_187_44 rfl (by decide) (by omega) rfl ?_
              refine zw_42 zr_187_47 ?_
              exact zw_less (L := [(2, 69), (0, (i4 + 1)), (9, 0), (9, 0)]) ⟨Or.inr rfl, Or.inr rfl, Or.inl rfl, Or.inl rfl, trivial⟩ (ihlp14_6 ((i4 + 1)) m5 hIm5 hFm5   (by omega) (by omega)  (by omega))
            · intro h120; omega
          · intro h121
            refine zw_7 zr_181_9 rfl ?_
            refine zw_3 zr_181_10 rfl ?_
            refine zw_push zr_181_11 ?_
            refine zw_C zr_181_12 (Or.inl rfl) zm_144 rfl rfl ⟨Nat.le_of_ble_eq_true rfl, Nat.le_of_ble_eq_true rfl, Nat.le_of_ble_eq_true rfl, rfl, by decide⟩ (by omega) (P := (fun v m' => zW E (d - 1) 181 15 [(2, 69), (0, i4)] (if v.1 = 9 then [] else v :: []) m' Q1)) ?_ (fun _ _ h => h)
            generalize hQ2 : (fun v m' => zW E (d - 1) 181 15 [(2, 69), (0, i4)] (if v.1 = 9 then [] else v :: []) m' Q1) = Q2
            show zW E (d - 1 - 1) 144 0 [(2, 69), (0, i4), (0, 5)] [] m5 Q2
            refine zw_7 zr_144_0 rfl ?_
            refine zw_46r (s := 70) zr_144_1 rfl rfl rfl rfl ?_
            refine zw_push zr_144_4 ?_
            refine zw_push zr_144_6 ?_
            refine zw_3 zr_144_8 rfl ?_
            refine zw_18 zr_144_9 (by omega) ?_
            refine zw_16 zr_144_10 (by omega) ?_
            refine zw_3 zr_144_11 rfl ?_
            refine zw_16 zr_144_12 (by omega) ?_
            refine zw_48 (c := 70) (len := 826) zr_144_13 rfl rfl (by omega) (by omega) ?_
            intro x122 ex122
            have bx122 := ib_70_m5 hIm5 (k := (((90 + (6 * i4)) + 5)).toNat) (by omega)
            rw [← ex122] at bx122
            clear ex122
            refine zw_R zr_144_14 (by decide) zm_144 (v := (0, x122)) rfl ?_
            rw [← hQ2]
            show zW E (d - 1) 181 15 [(2, 69), (0, i4)] [(0, x122)] m5 Q1
            refine zw_40_4 zr_181_15 ?_ ?_
            · intro h123
              refine zw_push zr_181_22 ?_
              refine zw_R zr_181_23 (by decide) zm_181 (v := (0, 0)) (zRetB (by omega)) ?_
              rw [← hQ1]
              show zW E (d) 187 27 [(2, 69), (0, i4), (9, 0), (9, 0)] [(0, 0)] m5 Q
              refine zw_40_1 zr_187_27 ?_ ?_
              · intro h124
                refine zw_15 (c := 1) (L' := [(2, 69), (0, (i4 + 1)), (9, 0), (9, 0)]) zr_187_44 rfl (by decide) (by omega) rfl ?_
                refine zw_42 zr_187_47 ?_
                exact zw_less (L := [(2, 69), (0, (i4 + 1)), (9, 0), (9, 0)]) ⟨Or.inr rfl, Or.inr rfl, Or.inl rfl, Or.inl rfl, trivial⟩ (ihlp14_6 ((i4 + 1)) m5 hIm5 hFm5   (by omega) (by omega)  (by omega))
              · intro h125; omega
            · intro h126
              refine zw_push zr_181_18 ?_
              refine zw_42 zr_181_19 ?_
              refine zw_R zr_181_23 (by decide) zm_181 (v := (0, 1)) (zRetB (by omega)) ?_
              rw [← hQ1]
              show zW E (d) 187 27 [(2, 69), (0, i4), (9, 0), (9, 0)] [(0, 1)] m5 Q
              refine zw_40_1 zr_187_27 ?_ ?_
              · intro h127; omega
              · intro h128
                refine zw_7 zr_187_30 rfl ?_
                refine zw_3 zr_187_31 rfl ?_
                refine zw_push zr_187_32 ?_
                refine zw_push zr_187_33 ?_
                refine zw_C zr_187_34 (Or.inl rfl) zm_184 rfl rfl ⟨Nat.le_of_ble_eq_true rfl, Nat.le_of_ble_eq_true rfl, Nat.le_of_ble_eq_true rfl, rfl, by decide⟩ (by omega) (th_184 (d := d - 1) (by omega) hIm5 (a0 := i4) (a1 := (-1)) (a2 := (-1))      (by omega) (by omega) (by omega) ) ?_
                rintro _ m129 ⟨r130, rfl, hr130a, hr130b, hIm129, gm129⟩
                have hFm129 : zFr W_187 m0 m129 := hFm5.trans gm129 rfl
                have km129_70_823 : m129 70 823 = f8 := (gm129 70 823 rfl).trans ef8
                show zW E (d) 187 37 [(2, 69), (0, i4), (9, 0), (9, 0)] [(0, r130)] m129 Q
                refine zw_40_1 zr_187_37 ?_ ?_
                · intro h131
                  refine zw_15 (c := 1) (L' := [(2, 69), (0, (i4 + 1)), (9, 0), (9, 0)]) zr_187_44 rfl (by decide) (by omega) rfl ?_
                  refine zw_42 zr_187_47 ?_
                  exact zw_less (L := [(2, 69), (0, (i4 + 1)), (9, 0), (9, 0)]) ⟨Or.inr rfl, Or.inr rfl, Or.inl rfl, Or.inl rfl, trivial⟩ (ihlp14_6 ((i4 + 1)) m129 hIm129 hFm129   (by omega) (by omega)  (by omega))
                · intro h132
                  refine zw_push zr_187_40 ?_
                  refine zw_3 zr_187_41 rfl ?_
                  refine zw_33p zr_187_42 (by omega) ?_
                  intro x133 ex133 hx133a hx133b
                  refine zw_R zr_187_43 (by decide) zm_187 (v := (1, x133)) rfl ?_
                  rw [← hQ]; exact ⟨_, rfl, by omega, by omega, hIm129, hFm129⟩
    exact lp14_6 _ (0) m1 hIm1 hFm1   (by omega) (by omega)  (Nat.lt_succ_self _)
  · intro h134
    refine zw_push zr_187_10 ?_
    refine zw_R zr_187_11 (by decide) zm_187 (v := (1, 0)) rfl ?_
    rw [← hQ]; exact ⟨_, rfl, by omega, by omega, hIm1, hFm1⟩

set_option maxHeartbeats 8000000 in
theorem th_69 {E : zE} {d : Nat} {m0 : zM} {g0 : Int} {F62 : Nat → Int} (hd : 1 ≤ d) (hI0 : zInv m0) (hg0 : m0 1 0 = g0) (hG62 : m0 62 = F62) : zC E d 69 [(2, 60)] m0 (fun v m' => ∃ r : Int, v = (0, r) ∧ (-1) ≤ r ∧ r ≤ 9 ∧ m0 = m' ∧ (zLm F62 g0 r)) := by
  have bg0 := ib_1_0 hI0
  rw [hg0] at bg0
  generalize hQ : (fun (v : zV) (m' : zM) => ∃ r : Int, v = (0, r) ∧ (-1) ≤ r ∧ r ≤ 9 ∧ m0 = m' ∧ (zLm F62 g0 r)) = Q
  show zW E d 69 0 [(2, 60), (9, 0)] [] m0 Q
  refine zw_push zr_69_0 ?_
  refine zw_9 (L' := [(2, 60), (0, 0)]) zr_69_1 (Nat.le_of_ble_eq_true rfl) rfl ?_
  have lp2_2 : ∀ (nlp2_2 : Nat) (i1 : Int), 0 ≤ i1 → i1 ≤ 10 → (zLq F62 i1) → (i1 ≤ g0) → (10 - i1).toNat < nlp2_2 → zW E (d) 69 2 [(2, 60), (0, i1)] [] m0 Q := by
    intro nlp2_2
    induction nlp2_2 with
    | zero =>
      intros
      exact absurd (by assumption : _ < 0) (Nat.not_lt_zero _)
    | succ nlp2_2 ihlp2_2 =>
      intro i1 li1 ui1 hv0lp2_2 hv1lp2_2 hmlp2_2
      refine zw_3 zr_69_2 rfl ?_
      refine zw_7 zr_69_3 rfl ?_
      refine zw_46r (s := 1) zr_69_4 rfl rfl rfl rfl ?_
      refine zw_46i zr_69_7 hg0 rfl rfl rfl ?_
      refine zw_41_3 zr_69_10 ?_ ?_
      · intro h4
        refine zw_push zr_69_31 ?_
        refine zw_R zr_69_32 (by decide) zm_69 (v := (0, (-1))) rfl ?_
        rw [← hQ]; exact ⟨_, rfl, by omega, by omega, rfl, by first | exact Or.inl ⟨rfl, fun q hq => hv0lp2_2 q (by omega)⟩ | exact Or.inr ⟨by omega, by omega, by rw [← qzz]; omega, hv0lp2_2⟩⟩
      · intro h6
        refine zw_7 zr_69_13 rfl ?_
        refine zw_46r (s := 62) zr_69_14 rfl rfl rfl rfl ?_
        refine zw_3 zr_69_17 rfl ?_
        refine zw_48 (c := 62) (len := 10) zr_69_18 rfl rfl (by omega) (by omega) ?_
        intro x7 ex7
        have bx7 := hI0.ra (c := 62) (len := 10) (k := (i1).toNat) rfl (by omega)
        rw [← ex7] at bx7
        have qx7 : x7 = F62 (i1).toNat := by rw [← hG62]; exact ex7
        clear ex7
        refine zw_push zr_69_19 ?_
        refine zw_41_1 zr_69_20 ?_ ?_
        · intro h8
          refine zw_15 (c := 1) (L' := [(2, 60), (0, (i1 + 1))]) zr_69_25 rfl (by decide) (by omega) rfl ?_
          refine zw_42 zr_69_28 ?_
          exact zw_less (L := [(2, 60), (0, (i1 + 1))]) ⟨Or.inr rfl, Or.inr rfl, trivial⟩ (ihlp2_2 ((i1 + 1))  (by omega) (by omega) (zLq_s hv0lp2_2 (by omega) qx7 (by omega)) (by omega) (by omega))
        · intro h10
          refine zw_3 zr_69_23 rfl ?_
          refine zw_R zr_69_24 (by decide) zm_69 (v := (0, i1)) rfl ?_
          rw [← hQ]; exact ⟨_, rfl, by omega, by omega, rfl, by first | exact Or.inl ⟨rfl, fun q hq => hv0lp2_2 q (by omega)⟩ | exact Or.inr ⟨by omega, by omega, by rw [← qx7]; omega, hv0lp2_2⟩⟩
  exact lp2_2 _ (0)  (by omega) (by omega) (zLq_0) (by omega) (Nat.lt_succ_self _)

abbrev W_71 : List (Nat × Nat) := [(61, 1000), (62, 1000)]
set_option maxHeartbeats 8000000 in
theorem th_71 {E : zE} {d : Nat} {m0 : zM} {a0 : Int} {g0 : Int} {g1 : Int} {g2 : Int} {g3 : Int} {F6 : Nat → Int} {F7 : Nat → Int} (hd : 3 ≤ d) (hI0 : zInv m0) (hg0 : m0 1 0 = g0) (hg1 : m0 1 1 = g1) (hg2 : m0 1 2 = g2) (hg3 : m0 1 3 = g3) (hG6 : m0 6 = F6) (hG7 : m0 7 = F7) (ha0 : 0 ≤ a0 ∧ a0 ≤ 9) (hp0 : a0 < g0) : zC E d 71 [(2, 60), (0, a0)] m0 (fun v m' => ∃ r : Int, v = (0, r) ∧ (-1) ≤ r ∧ r ≤ 9 ∧ zInv m' ∧ zFr W_71 m0 m' ∧ (0 ≤ r ∧ zLs (edp F6 F7 g2 g3 g1 (-1) g0) a0 r)) := by
  have hF0 : zFr W_71 m0 m0 := zFr.rfl
  have bg0 := ib_1_0 hI0
  rw [hg0] at bg0
  have bg1 := ib_1_1 hI0
  rw [hg1] at bg1
  have bg2 := ib_1_2 hI0
  rw [hg2] at bg2
  have bg3 := ib_1_3 hI0
  rw [hg3] at bg3
  generalize hQ : (fun (v : zV) (m' : zM) => ∃ r : Int, v = (0, r) ∧ (-1) ≤ r ∧ r ≤ 9 ∧ zInv m' ∧ zFr W_71 m0 m' ∧ (0 ≤ r ∧ zLs (edp F6 F7 g2 g3 g1 (-1) g0) a0 r)) = Q
  show zW E d 71 0 [(2, 60), (0, a0)] [] m0 Q
  refine zw_7 zr_71_0 rfl ?_
  refine zw_7 zr_71_1 rfl ?_
  refine zw_46r (s := 1) zr_71_2 rfl rfl rfl rfl ?_
  refine zw_C zr_71_5 (Or.inl rfl) zm_53 rfl rfl ⟨Nat.le_of_ble_eq_true rfl, Nat.le_of_ble_eq_true rfl, Nat.le_of_ble_eq_true rfl, rfl, by decide⟩ (by omega) (th_53 (d := d - 1) (by omega) hI0  (g0 := g1) (g1 := g2) (g2 := g3)   hg1 hg2 hg3   ) ?_
  rintro _ _ ⟨r1, rfl, hr1a, hr1b, rfl, po0_r1⟩
  show zW E (d) 71 8 [(2, 60), (0, a0)] [(1, r1), (2, 60)] m0 Q
  refine zw_C zr_71_8 (Or.inl rfl) zm_66 rfl rfl ⟨Nat.le_of_ble_eq_true rfl, Nat.le_of_ble_eq_true rfl, Nat.le_of_ble_eq_true rfl, rfl, by decide⟩ (by omega) (th_66 (d := d - 1) (by omega) hI0 (a0 := r1) (g0 := g1)  (F61 := m0 61) (F6 := F6) (F7 := F7) hg1 rfl hG6 hG7 (by omega) ) ?_
  rintro _ m2 ⟨rfl, hIm2, gm2, po0_m2⟩
  have hFm2 : zFr W_71 m0 m2 := hF0.trans gm2 rfl
  have km2_1_0 : m2 1 0 = g0 := (gm2 1 0 rfl).trans hg0
  have km2_1_1 : m2 1 1 = g1 := (gm2 1 1 rfl).trans hg1
  have km2_1_2 : m2 1 2 = g2 := (gm2 1 2 rfl).trans hg2
  have km2_1_3 : m2 1 3 = g3 := (gm2 1 3 rfl).trans hg3
  have fm2_6 : m2 6 = F6 := (funext fun k => gm2 6 k rfl).trans hG6
  have fm2_7 : m2 7 = F7 := (funext fun k => gm2 7 k rfl).trans hG7
  show zW E (d) 71 11 [(2, 60), (0, a0)] [] m2 Q
  refine zw_7 zr_71_11 rfl ?_
  refine zw_3 zr_71_12 rfl ?_
  refine zw_C zr_71_13 (Or.inl rfl) zm_67 rfl rfl ⟨Nat.le_of_ble_eq_true rfl, Nat.le_of_ble_eq_true rfl, Nat.le_of_ble_eq_true rfl, rfl, by decide⟩ (by omega) (th_67 (d := d - 1) (by omega) hIm2 (a0 := a0) (g0 := g0)  (F61 := m2 61) (F62 := m2 62) km2_1_0 rfl rfl (by omega) ) ?_
  rintro _ m3 ⟨rfl, hIm3, gm3, po0_m3⟩
  have hFm3 : zFr W_71 m0 m3 := hFm2.trans gm3 rfl
  have km3_1_0 : m3 1 0 = g0 := (gm3 1 0 rfl).trans km2_1_0
  have km3_1_1 : m3 1 1 = g1 := (gm3 1 1 rfl).trans km2_1_1
  have km3_1_2 : m3 1 2 = g2 := (gm3 1 2 rfl).trans km2_1_2
  have km3_1_3 : m3 1 3 = g3 := (gm3 1 3 rfl).trans km2_1_3
  have fm3_6 : m3 6 = F6 := (funext fun k => gm3 6 k rfl).trans fm2_6
  have fm3_7 : m3 7 = F7 := (funext fun k => gm3 7 k rfl).trans fm2_7
  show zW E (d) 71 16 [(2, 60), (0, a0)] [] m3 Q
  refine zw_7 zr_71_16 rfl ?_
  refine zw_C zr_71_17 (Or.inl rfl) zm_69 rfl rfl ⟨Nat.le_of_ble_eq_true rfl, Nat.le_of_ble_eq_true rfl, Nat.le_of_ble_eq_true rfl, rfl, by decide⟩ (by omega) (th_69 (d := d - 1) (by omega) hIm3  (g0 := g0)  (F62 := m3 62) km3_1_0 rfl  ) ?_
  rintro _ _ ⟨r4, rfl, hr4a, hr4b, rfl, po0_r4⟩
  show zW E (d) 71 20 [(2, 60), (0, a0)] [(0, r4)] m3 Q
  refine zw_R zr_71_20 (by decide) zm_71 (v := (0, r4)) rfl ?_
  rw [← hQ]; exact ⟨_, rfl, by omega, by omega, hIm3, hFm3, zLs_f po0_r1 po0_m2 po0_m3 po0_r4 (by omega) (by omega) (by omega)⟩

abbrev W_70 : List (Nat × Nat) := [(61, 1000), (62, 1000)]
set_option maxHeartbeats 8000000 in
theorem th_70 {E : zE} {d : Nat} {m0 : zM} {g0 : Int} {g1 : Int} {g2 : Int} {g3 : Int} {F6 : Nat → Int} {F7 : Nat → Int} {F61 : Nat → Int} (hd : 3 ≤ d) (hI0 : zInv m0) (hg0 : m0 1 0 = g0) (hg1 : m0 1 1 = g1) (hg2 : m0 1 2 = g2) (hg3 : m0 1 3 = g3) (hG6 : m0 6 = F6) (hG7 : m0 7 = F7) (hG61 : m0 61 = F61) : zC E d 70 [(2, 60)] m0 (fun v m' => ∃ r : Int, v = (0, r) ∧ 0 ≤ r ∧ r ≤ 10 ∧ zInv m' ∧ zFr W_70 m0 m' ∧ (r = isl (edp F6 F7 g2 g3 g1 (-1) g0) g0.toNat)) := by
  have hF0 : zFr W_70 m0 m0 := zFr.rfl
  have bg0 := ib_1_0 hI0
  rw [hg0] at bg0
  have bg1 := ib_1_1 hI0
  rw [hg1] at bg1
  have bg2 := ib_1_2 hI0
  rw [hg2] at bg2
  have bg3 := ib_1_3 hI0
  rw [hg3] at bg3
  generalize hQ : (fun (v : zV) (m' : zM) => ∃ r : Int, v = (0, r) ∧ 0 ≤ r ∧ r ≤ 10 ∧ zInv m' ∧ zFr W_70 m0 m' ∧ (r = isl (edp F6 F7 g2 g3 g1 (-1) g0) g0.toNat)) = Q
  show zW E d 70 0 [(2, 60), (9, 0), (9, 0)] [] m0 Q
  refine zw_push zr_70_0 ?_
  refine zw_9 (L' := [(2, 60), (0, 0), (9, 0)]) zr_70_1 (Nat.le_of_ble_eq_true rfl) rfl ?_
  refine zw_7 zr_70_2 rfl ?_
  refine zw_7 zr_70_3 rfl ?_
  refine zw_46r (s := 1) zr_70_4 rfl rfl rfl rfl ?_
  refine zw_C zr_70_7 (Or.inl rfl) zm_53 rfl rfl ⟨Nat.le_of_ble_eq_true rfl, Nat.le_of_ble_eq_true rfl, Nat.le_of_ble_eq_true rfl, rfl, by decide⟩ (by omega) (th_53 (d := d - 1) (by omega) hI0  (g0 := g1) (g1 := g2) (g2 := g3)   hg1 hg2 hg3   ) ?_
  rintro _ _ ⟨r1, rfl, hr1a, hr1b, rfl, po0_r1⟩
  show zW E (d) 70 10 [(2, 60), (0, 0), (9, 0)] [(1, r1), (2, 60)] m0 Q
  refine zw_C zr_70_10 (Or.inl rfl) zm_66 rfl rfl ⟨Nat.le_of_ble_eq_true rfl, Nat.le_of_ble_eq_true rfl, Nat.le_of_ble_eq_true rfl, rfl, by decide⟩ (by omega) (th_66 (d := d - 1) (by omega) hI0 (a0 := r1) (g0 := g1)  (F61 := F61) (F6 := F6) (F7 := F7) hg1 hG61 hG6 hG7 (by omega) ) ?_
  rintro _ m2 ⟨rfl, hIm2, gm2, po0_m2⟩
  have hFm2 : zFr W_70 m0 m2 := hF0.trans gm2 rfl
  have km2_1_0 : m2 1 0 = g0 := (gm2 1 0 rfl).trans hg0
  have km2_1_1 : m2 1 1 = g1 := (gm2 1 1 rfl).trans hg1
  have km2_1_2 : m2 1 2 = g2 := (gm2 1 2 rfl).trans hg2
  have km2_1_3 : m2 1 3 = g3 := (gm2 1 3 rfl).trans hg3
  have fm2_6 : m2 6 = F6 := (funext fun k => gm2 6 k rfl).trans hG6
  have fm2_7 : m2 7 = F7 := (funext fun k => gm2 7 k rfl).trans hG7
  obtain ⟨f3, fm2_61⟩ : ∃ f, m2 61 = f := ⟨_, rfl⟩
  try rw [fm2_61] at po0_m2
  show zW E (d) 70 13 [(2, 60), (0, 0), (9, 0)] [] m2 Q
  refine zw_push zr_70_13 ?_
  refine zw_9 (L' := [(2, 60), (0, 0), (0, 0)]) zr_70_14 (Nat.le_of_ble_eq_true rfl) rfl ?_
  have lp15_7 : ∀ (nlp15_7 : Nat) (i4 i5 : Int) (m6 : zM), zInv m6 → zFr W_70 m0 m6 → m6 1 0 = g0 → m6 1 1 = g1 → m6 1 2 = g2 → m6 1 3 = g3 → m6 6 = F6 → m6 7 = F7 → m6 61 = f3 → 0 ≤ i4 → i4 ≤ 10 → 0 ≤ i5 → i5 ≤ 10 → (i4 = isl (edp F6 F7 g2 g3 g1 (-1) g0) (i5).toNat) → (i4 ≤ i5 ∧ i5 ≤ g0) → (10 - i5).toNat < nlp15_7 → zW E (d) 70 15 [(2, 60), (0, i4), (0, i5)] [] m6 Q := by
    intro nlp15_7
    induction nlp15_7 with
    | zero =>
      intros
      exact absurd (by assumption : _ < 0) (Nat.not_lt_zero _)
    | succ nlp15_7 ihlp15_7 =>
      intro i4 i5 m6 hIm6 hFm6 km6_1_0 km6_1_1 km6_1_2 km6_1_3 fm6_6 fm6_7 fm6_61 li4 ui4 li5 ui5 hv0lp15_7 hv1lp15_7 hmlp15_7
      refine zw_3 zr_70_15 rfl ?_
      refine zw_7 zr_70_16 rfl ?_
      refine zw_46r (s := 1) zr_70_17 rfl rfl rfl rfl ?_
      refine zw_46i zr_70_20 km6_1_0 rfl rfl rfl ?_
      refine zw_41_3 zr_70_23 ?_ ?_
      · intro h9
        refine zw_3 zr_70_48 rfl ?_
        refine zw_R zr_70_49 (by decide) zm_70 (v := (0, i4)) rfl ?_
        rw [← hQ]; exact ⟨_, rfl, by omega, by omega, hIm6, hFm6, by have z := hv0lp15_7; rw [show (i5).toNat = g0.toNat by omega] at z; exact z⟩
      · intro h11
        refine zw_7 zr_70_26 rfl ?_
        refine zw_3 zr_70_27 rfl ?_
        refine zw_C zr_70_28 (Or.inl rfl) zm_67 rfl rfl ⟨Nat.le_of_ble_eq_true rfl, Nat.le_of_ble_eq_true rfl, Nat.le_of_ble_eq_true rfl, rfl, by decide⟩ (by omega) (th_67 (d := d - 1) (by omega) hIm6 (a0 := i5) (g0 := g0)  (F61 := f3) (F62 := m6 62) km6_1_0 fm6_61 rfl (by omega) ) ?_
        rintro _ m12 ⟨rfl, hIm12, gm12, po0_m12⟩
        have hFm12 : zFr W_70 m0 m12 := hFm6.trans gm12 rfl
        have km12_1_0 : m12 1 0 = g0 := (gm12 1 0 rfl).trans km6_1_0
        have km12_1_1 : m12 1 1 = g1 := (gm12 1 1 rfl).trans km6_1_1
        have km12_1_2 : m12 1 2 = g2 := (gm12 1 2 rfl).trans km6_1_2
        have km12_1_3 : m12 1 3 = g3 := (gm12 1 3 rfl).trans km6_1_3
        have fm12_6 : m12 6 = F6 := (funext fun k => gm12 6 k rfl).trans fm6_6
        have fm12_7 : m12 7 = F7 := (funext fun k => gm12 7 k rfl).trans fm6_7
        have fm12_61 : m12 61 = f3 := (funext fun k => gm12 61 k rfl).trans fm6_61
        show zW E (d) 70 31 [(2, 60), (0, i4), (0, i5)] [] m12 Q
        refine zw_7 zr_70_31 rfl ?_
        refine zw_C zr_70_32 (Or.inl rfl) zm_69 rfl rfl ⟨Nat.le_of_ble_eq_true rfl, Nat.le_of_ble_eq_true rfl, Nat.le_of_ble_eq_true rfl, rfl, by decide⟩ (by omega) (th_69 (d := d - 1) (by omega) hIm12  (g0 := g0)  (F62 := m12 62) km12_1_0 rfl  ) ?_
        rintro _ _ ⟨r13, rfl, hr13a, hr13b, rfl, po0_r13⟩
        show zW E (d) 70 35 [(2, 60), (0, i4), (0, i5)] [(0, r13)] m12 Q
        have z14 := isl_c (by assumption : zLk f3 F6 F7 _ g1) (by assumption : zSy _ g2 g3 g1) po0_m12 po0_r13 (by omega) (by omega) (by omega)
        refine zw_3 zr_70_35 rfl ?_
        refine zw_41_4 zr_70_36 ?_ ?_
        · intro h15
          refine zw_15 (c := 1) (L' := [(2, 60), (0, i4), (0, (i5 + 1))]) zr_70_42 rfl (by decide) (by omega) rfl ?_
          refine zw_42 zr_70_45 ?_
          exact zw_less (L := [(2, 60), (0, i4), (0, (i5 + 1))]) ⟨Or.inr rfl, Or.inr rfl, Or.inr rfl, trivial⟩ (ihlp15_7 (i4) ((i5 + 1)) m12 hIm12 hFm12  km12_1_0 km12_1_1 km12_1_2 km12_1_3 fm12_6 fm12_7 fm12_61 (by omega) (by omega) (by omega) (by omega) (by omega) (by omega) (by omega))
        · intro h16
          refine zw_15 (c := 1) (L' := [(2, 60), (0, (i4 + 1)), (0, i5)]) zr_70_39 rfl (by decide) (by omega) rfl ?_
          refine zw_15 (c := 1) (L' := [(2, 60), (0, (i4 + 1)), (0, (i5 + 1))]) zr_70_42 rfl (by decide) (by omega) rfl ?_
          refine zw_42 zr_70_45 ?_
          exact zw_less (L := [(2, 60), (0, (i4 + 1)), (0, (i5 + 1))]) ⟨Or.inr rfl, Or.inr rfl, Or.inr rfl, trivial⟩ (ihlp15_7 ((i4 + 1)) ((i5 + 1)) m12 hIm12 hFm12  km12_1_0 km12_1_1 km12_1_2 km12_1_3 fm12_6 fm12_7 fm12_61 (by omega) (by omega) (by omega) (by omega) (by omega) (by omega) (by omega))
  exact lp15_7 _ (0) (0) m2 hIm2 hFm2  km2_1_0 km2_1_1 km2_1_2 km2_1_3 fm2_6 fm2_7 fm2_61 (by omega) (by omega) (by omega) (by omega) (by rfl) (by omega) (Nat.lt_succ_self _)

abbrev W_120 : List (Nat × Nat) := [(61, 1000), (62, 1000)]
set_option maxHeartbeats 8000000 in
theorem th_120 {E : zE} {d : Nat} {m0 : zM} {a0 : Int} {g0 : Int} {g1 : Int} {g2 : Int} {g3 : Int} {F6 : Nat → Int} {F7 : Nat → Int} (hd : 4 ≤ d) (hI0 : zInv m0) (hg0 : m0 1 0 = g0) (hg1 : m0 1 1 = g1) (hg2 : m0 1 2 = g2) (hg3 : m0 1 3 = g3) (hG6 : m0 6 = F6) (hG7 : m0 7 = F7) (ha0 : (-2147483648) ≤ a0 ∧ a0 ≤ 2147483647) : zC E d 120 [(2, 0), (0, a0)] m0 (fun v m' => ∃ r : Int, v = (0, r) ∧ (-2) ≤ r ∧ r ≤ 10 ∧ zInv m' ∧ zFr W_120 m0 m' ∧ ((a0 = -1 ∧ r = isl (edp F6 F7 g2 g3 g1 (-1) g0) g0.toNat) ∨ ((0 ≤ a0 ∧ a0 < g0) ∧ 0 ≤ r ∧ zLs (edp F6 F7 g2 g3 g1 (-1) g0) a0 r) ∨ ((a0 < -1 ∨ g0 ≤ a0) ∧ r = -2))) := by
  have hF0 : zFr W_120 m0 m0 := zFr.rfl
  have bg0 := ib_1_0 hI0
  rw [hg0] at bg0
  have bg1 := ib_1_1 hI0
  rw [hg1] at bg1
  have bg2 := ib_1_2 hI0
  rw [hg2] at bg2
  have bg3 := ib_1_3 hI0
  rw [hg3] at bg3
  generalize hQ : (fun (v : zV) (m' : zM) => ∃ r : Int, v = (0, r) ∧ (-2) ≤ r ∧ r ≤ 10 ∧ zInv m' ∧ zFr W_120 m0 m' ∧ ((a0 = -1 ∧ r = isl (edp F6 F7 g2 g3 g1 (-1) g0) g0.toNat) ∨ ((0 ≤ a0 ∧ a0 < g0) ∧ 0 ≤ r ∧ zLs (edp F6 F7 g2 g3 g1 (-1) g0) a0 r) ∨ ((a0 < -1 ∨ g0 ≤ a0) ∧ r = -2))) = Q
  show zW E d 120 0 [(2, 0), (0, a0)] [] m0 Q
  refine zw_3 zr_120_0 rfl ?_
  refine zw_push zr_120_1 ?_
  refine zw_41_4 zr_120_2 ?_ ?_
  · intro h1
    refine zw_7 zr_120_13 rfl ?_
    refine zw_46r (s := 1) zr_120_14 rfl rfl rfl rfl ?_
    refine zw_3 zr_120_17 rfl ?_
    refine zw_C zr_120_18 (Or.inl rfl) zm_49 rfl rfl ⟨Nat.le_of_ble_eq_true rfl, Nat.le_of_ble_eq_true rfl, Nat.le_of_ble_eq_true rfl, rfl, by decide⟩ (by omega) (P := (fun v m' => zW E (d) 120 21 [(2, 0), (0, a0)] (if v.1 = 9 then [] else v :: []) m' Q)) ?_ (fun _ _ h => h)
    generalize hQ1 : (fun v m' => zW E (d) 120 21 [(2, 0), (0, a0)] (if v.1 = 9 then [] else v :: []) m' Q) = Q1
    show zW E (d - 1) 49 0 [(2, 1), (0, a0)] [] m0 Q1
    refine zw_3 zr_49_0 rfl ?_
    refine zw_40_0 zr_49_1 ?_ ?_
    · intro h2
      refine zw_push zr_49_16 ?_
      refine zw_R zr_49_17 (by decide) zm_49 (v := (0, 0)) (zRetB (by omega)) ?_
      rw [← hQ1]
      show zW E (d) 120 21 [(2, 0), (0, a0)] [(0, 0)] m0 Q
      refine zw_40_1 zr_120_21 ?_ ?_
      · intro h3
        refine zw_push zr_120_35 ?_
        refine zw_R zr_120_37 (by decide) zm_120 (v := (0, (-2))) rfl ?_
        rw [← hQ]; exact ⟨_, rfl, by omega, by omega, hI0, hF0, by first | exact Or.inl ⟨by omega, zz⟩ | exact Or.inr (Or.inl ⟨by omega, zz⟩) | exact Or.inr (Or.inr ⟨by omega, rfl⟩)⟩
      · intro h5; omega
    · intro h6
      refine zw_3 zr_49_4 rfl ?_
      refine zw_7 zr_49_5 rfl ?_
      refine zw_46i zr_49_6 hg0 rfl rfl rfl ?_
      refine zw_41_3 zr_49_9 ?_ ?_
      · intro h7
        refine zw_push zr_49_16 ?_
        refine zw_R zr_49_17 (by decide) zm_49 (v := (0, 0)) (zRetB (by omega)) ?_
        rw [← hQ1]
        show zW E (d) 120 21 [(2, 0), (0, a0)] [(0, 0)] m0 Q
        refine zw_40_1 zr_120_21 ?_ ?_
        · intro h8
          refine zw_push zr_120_35 ?_
          refine zw_R zr_120_37 (by decide) zm_120 (v := (0, (-2))) rfl ?_
          rw [← hQ]; exact ⟨_, rfl, by omega, by omega, hI0, hF0, by first | exact Or.inl ⟨by omega, zz⟩ | exact Or.inr (Or.inl ⟨by omega, zz⟩) | exact Or.inr (Or.inr ⟨by omega, rfl⟩)⟩
        · intro h10; omega
      · intro h11
        refine zw_push zr_49_12 ?_
        refine zw_42 zr_49_13 ?_
        refine zw_R zr_49_17 (by decide) zm_49 (v := (0, 1)) (zRetB (by omega)) ?_
        rw [← hQ1]
        show zW E (d) 120 21 [(2, 0), (0, a0)] [(0, 1)] m0 Q
        refine zw_40_1 zr_120_21 ?_ ?_
        · intro h12; omega
        · intro h13
          refine zw_7 zr_120_24 rfl ?_
          refine zw_46r (s := 60) zr_120_25 rfl rfl rfl rfl ?_
          refine zw_3 zr_120_28 rfl ?_
          refine zw_C zr_120_29 (Or.inl rfl) zm_71 rfl rfl ⟨Nat.le_of_ble_eq_true rfl, Nat.le_of_ble_eq_true rfl, Nat.le_of_ble_eq_true rfl, rfl, by decide⟩ (by omega) (th_71 (d := d - 1) (by omega) hI0 (a0 := a0) (g0 := g0) (g1 := g1) (g2 := g2) (g3 := g3)  (F6 := F6) (F7 := F7) hg0 hg1 hg2 hg3 hG6 hG7 (by omega) (by omega)) ?_
          rintro _ m14 ⟨r15, rfl, hr15a, hr15b, hIm14, gm14, po0_r15⟩
          have hFm14 : zFr W_120 m0 m14 := hF0.trans gm14 rfl
          have km14_1_0 : m14 1 0 = g0 := (gm14 1 0 rfl).trans hg0
          have km14_1_1 : m14 1 1 = g1 := (gm14 1 1 rfl).trans hg1
          have km14_1_2 : m14 1 2 = g2 := (gm14 1 2 rfl).trans hg2
          have km14_1_3 : m14 1 3 = g3 := (gm14 1 3 rfl).trans hg3
          have fm14_6 : m14 6 = F6 := (funext fun k => gm14 6 k rfl).trans hG6
          have fm14_7 : m14 7 = F7 := (funext fun k => gm14 7 k rfl).trans hG7
          show zW E (d) 120 32 [(2, 0), (0, a0)] [(0, r15)] m14 Q
          refine zw_42 zr_120_32 ?_
          refine zw_R zr_120_37 (by decide) zm_120 (v := (0, r15)) rfl ?_
          rw [← hQ]; exact ⟨_, rfl, by omega, by omega, hIm14, hFm14, by first | exact Or.inl ⟨by omega, po0_r15⟩ | exact Or.inr (Or.inl ⟨by omega, po0_r15⟩) | exact Or.inr (Or.inr ⟨by omega, rfl⟩)⟩
  · intro h17
    refine zw_7 zr_120_5 rfl ?_
    refine zw_46r (s := 60) zr_120_6 rfl rfl rfl rfl ?_
    refine zw_C zr_120_9 (Or.inl rfl) zm_70 rfl rfl ⟨Nat.le_of_ble_eq_true rfl, Nat.le_of_ble_eq_true rfl, Nat.le_of_ble_eq_true rfl, rfl, by decide⟩ (by omega) (th_70 (d := d - 1) (by omega) hI0  (g0 := g0) (g1 := g1) (g2 := g2) (g3 := g3)  (F6 := F6) (F7 := F7) (F61 := m0 61) hg0 hg1 hg2 hg3 hG6 hG7 rfl  ) ?_
    rintro _ m18 ⟨r19, rfl, hr19a, hr19b, hIm18, gm18, po0_r19⟩
    have hFm18 : zFr W_120 m0 m18 := hF0.trans gm18 rfl
    have km18_1_0 : m18 1 0 = g0 := (gm18 1 0 rfl).trans hg0
    have km18_1_1 : m18 1 1 = g1 := (gm18 1 1 rfl).trans hg1
    have km18_1_2 : m18 1 2 = g2 := (gm18 1 2 rfl).trans hg2
    have km18_1_3 : m18 1 3 = g3 := (gm18 1 3 rfl).trans hg3
    have fm18_6 : m18 6 = F6 := (funext fun k => gm18 6 k rfl).trans hG6
    have fm18_7 : m18 7 = F7 := (funext fun k => gm18 7 k rfl).trans hG7
    show zW E (d) 120 12 [(2, 0), (0, a0)] [(0, r19)] m18 Q
    refine zw_R zr_120_12 (by decide) zm_120 (v := (0, r19)) rfl ?_
    rw [← hQ]; exact ⟨_, rfl, by omega, by omega, hIm18, hFm18, by first | exact Or.inl ⟨by omega, po0_r19⟩ | exact Or.inr (Or.inl ⟨by omega, po0_r19⟩) | exact Or.inr (Or.inr ⟨by omega, rfl⟩)⟩

abbrev W_188 : List (Nat × Nat) := [(81, 1000)]
set_option maxHeartbeats 8000000 in
theorem th_188 {E : zE} {d : Nat} {m0 : zM} {a0 : Int} {a1 : Int} {g0 : Int} {F70 : Nat → Int} {F81 : Nat → Int} (hd : 3 ≤ d) (hI0 : zInv m0) (hg0 : m0 70 823 = g0) (hG70 : m0 70 = F70) (hG81 : m0 81 = F81) (ha0 : 0 ≤ a0 ∧ a0 ≤ 9) (ha1 : (-1) ≤ a1 ∧ a1 ≤ 59) : zC E d 188 [(2, 69), (0, a0), (0, a1)] m0 (fun v m' => v = (9, 0) ∧ zInv m' ∧ zFr W_188 m0 m' ∧ (m' 81 a0.toNat ≤ 0) ∧ (zGd (edr F70 g0 a1) a0 (m' 81))) := by
  have hF0 : zFr W_188 m0 m0 := zFr.rfl
  have bg0 : 0 ≤ m0 70 823 ∧ m0 70 823 ≤ 60 := ib_70_meetings hI0 (by omega)
  rw [hg0] at bg0
  generalize hQ : (fun (v : zV) (m' : zM) => v = (9, 0) ∧ zInv m' ∧ zFr W_188 m0 m' ∧ (m' 81 a0.toNat ≤ 0) ∧ (zGd (edr F70 g0 a1) a0 (m' 81))) = Q
  show zW E d 188 0 [(2, 69), (0, a0), (0, a1), (9, 0), (9, 0), (9, 0), (9, 0)] [] m0 Q
  refine zw_push zr_188_0 ?_
  refine zw_9 (L' := [(2, 69), (0, a0), (0, a1), (0, 0), (9, 0), (9, 0), (9, 0)]) zr_188_1 (Nat.le_of_ble_eq_true rfl) rfl ?_
  have lp2_4 : ∀ (nlp2_4 : Nat) (i1 : Int) (f3 : Nat → Int) (m2 : zM), zInv m2 → zFr W_188 m0 m2 → m2 70 823 = g0 → m2 70 = F70 → m2 81 = f3 → 0 ≤ i1 → i1 ≤ 10 → (i1 ≤ a0 ∨ m2 81 a0.toNat ≤ 0) → (zG0 a0 i1 f3) → (10 - i1).toNat < nlp2_4 → zW E (d) 188 2 [(2, 69), (0, a0), (0, a1), (0, i1), (9, 0), (9, 0), (9, 0)] [] m2 Q := by
    intro nlp2_4
    induction nlp2_4 with
    | zero =>
      intros
      exact absurd (by assumption : _ < 0) (Nat.not_lt_zero _)
    | succ nlp2_4 ihlp2_4 =>
      intro i1 f3 m2 hIm2 hFm2 km2_70_823 fm2_70 fm2_81 li1 ui1 hv0lp2_4 hv1lp2_4 hmlp2_4
      refine zw_3 zr_188_2 rfl ?_
      refine zw_push zr_188_3 ?_
      refine zw_41_3 zr_188_5 ?_ ?_
      · intro h6
        refine zw_push zr_188_31 ?_
        refine zw_9 (L' := [(2, 69), (0, a0), (0, a1), (0, 0), (9, 0), (9, 0), (9, 0)]) zr_188_32 (Nat.le_of_ble_eq_true rfl) rfl ?_
        have lp33_10 : ∀ (nlp33_10 : Nat) (i7 : Int) (f9 : Nat → Int) (m8 : zM), zInv m8 → zFr W_188 m0 m8 → m8 70 823 = g0 → m8 70 = F70 → m8 81 = f9 → 0 ≤ i7 → i7 ≤ 10 → (m8 81 a0.toNat ≤ 0) → (zG1 (edr F70 g0 a1) a0 i7 f9) → (10 - i7).toNat < nlp33_10 → zW E (d) 188 33 [(2, 69), (0, a0), (0, a1), (0, i7), (9, 0), (9, 0), (9, 0)] [] m8 Q := by
          intro nlp33_10
          induction nlp33_10 with
          | zero =>
            intros
            exact absurd (by assumption : _ < 0) (Nat.not_lt_zero _)
          | succ nlp33_10 ihlp33_10 =>
            intro i7 f9 m8 hIm8 hFm8 km8_70_823 fm8_70 fm8_81 li7 ui7 hv0lp33_10 hv1lp33_10 hmlp33_10
            refine zw_3 zr_188_33 rfl ?_
            refine zw_push zr_188_34 ?_
            refine zw_41_3 zr_188_36 ?_ ?_
            · intro h12
              refine zw_R zr_188_186 (by decide) zm_188 (v := (9, 0)) rfl ?_
              rw [← hQ]; exact ⟨rfl, hIm8, hFm8, by omega, by rw [fm8_81]; exact zGd_end hv1lp33_10 (by omega) (by omega) (edr_lt (fun i hi => ⟨by rw [← hG70]; exact (ib_70_m1 hI0 (by omega)).2, by rw [← hG70]; exact (ib_70_m2 hI0 (by omega)).2⟩))⟩
            · intro h15
              refine zw_push zr_188_39 ?_
              refine zw_10 (L' := [(2, 69), (0, a0), (0, a1), (0, i7), (0, 0), (9, 0), (9, 0)]) zr_188_40 (Nat.le_of_ble_eq_true rfl) rfl ?_
              have lp42_19 : ∀ (nlp42_19 : Nat) (i16 : Int) (f18 : Nat → Int) (m17 : zM), zInv m17 → zFr W_188 m0 m17 → m17 70 823 = g0 → m17 70 = F70 → m17 81 = f18 → 0 ≤ i16 → i16 ≤ 60 → (m17 81 a0.toNat ≤ 0) → (zG2 (edr F70 g0 a1) F70 a1 a0 i7 i16 f18) → (60 - i16).toNat < nlp42_19 → zW E (d) 188 42 [(2, 69), (0, a0), (0, a1), (0, i7), (0, i16), (9, 0), (9, 0)] [] m17 Q := by
                intro nlp42_19
                induction nlp42_19 with
                | zero =>
                  intros
                  exact absurd (by assumption : _ < 0) (Nat.not_lt_zero _)
                | succ nlp42_19 ihlp42_19 =>
                  intro i16 f18 m17 hIm17 hFm17 km17_70_823 fm17_70 fm17_81 li16 ui16 hv0lp42_19 hv1lp42_19 hmlp42_19
                  have z21 : F70 ((90 + (6 * i16)) + 1).toNat = F70 (91 + 6 * (i16).toNat) := congrArg F70 (by omega)
                  have z22 : F70 ((90 + (6 * i16)) + 2).toNat = F70 (92 + 6 * (i16).toNat) := congrArg F70 (by omega)
                  have z23 : F70 ((90 + (6 * i16)) + 4).toNat = F70 (94 + 6 * (i16).toNat) := congrArg F70 (by omega)
                  have z24 : F70 ((90 + (6 * i16)) + 5).toNat = F70 (95 + 6 * (i16).toNat) := congrArg F70 (by omega)
                  refine zw_4 zr_188_42 rfl ?_
                  refine zw_7 zr_188_44 rfl ?_
                  refine zw_C zr_188_45 (Or.inl rfl) zm_142 rfl rfl ⟨Nat.le_of_ble_eq_true rfl, Nat.le_of_ble_eq_true rfl, Nat.le_of_ble_eq_true rfl, rfl, by decide⟩ (by omega) (P := (fun v m' => zW E (d) 188 48 [(2, 69), (0, a0), (0, a1), (0, i7), (0, i16), (9, 0), (9, 0)] (if v.1 = 9 then [(0, i16)] else v :: [(0, i16)]) m' Q)) ?_ (fun _ _ h => h)
                  generalize hQ1 : (fun v m' => zW E (d) 188 48 [(2, 69), (0, a0), (0, a1), (0, i7), (0, i16), (9, 0), (9, 0)] (if v.1 = 9 then [(0, i16)] else v :: [(0, i16)]) m' Q) = Q1
                  show zW E (d - 1) 142 0 [(2, 69)] [] m17 Q1
                  refine zw_7 zr_142_0 rfl ?_
                  refine zw_46r (s := 70) zr_142_1 rfl rfl rfl rfl ?_
                  refine zw_push zr_142_4 ?_
                  refine zw_48k (c := 70) (len := 826) zr_142_7 rfl rfl (by omega) (by omega) (show (823 : Int).toNat = 823 by omega) km17_70_823 ?_
                  refine zw_R zr_142_8 (by decide) zm_142 (v := (0, g0)) rfl ?_
                  rw [← hQ1]
                  show zW E (d) 188 48 [(2, 69), (0, a0), (0, a1), (0, i7), (0, i16), (9, 0), (9, 0)] [(0, g0), (0, i16)] m17 Q
                  refine zw_41_3 zr_188_48 ?_ ?_
                  · intro h25
                    refine zw_15 (c := 1) (L' := [(2, 69), (0, a0), (0, a1), (0, (i7 + 1)), (0, i16), (9, 0), (9, 0)]) zr_188_180 rfl (by decide) (by omega) rfl ?_
                    refine zw_42 zr_188_183 ?_
                    exact zw_less (L := [(2, 69), (0, a0), (0, a1), (0, (i7 + 1)), (9, 0), (9, 0), (9, 0)]) ⟨Or.inr rfl, Or.inr rfl, Or.inr rfl, Or.inr rfl, Or.inl rfl, Or.inl rfl, Or.inl rfl, trivial⟩ (ihlp33_10 ((i7 + 1)) (f18) m17 hIm17 hFm17  km17_70_823 fm17_70 fm17_81 (by omega) (by omega) (by omega) (zG1_next hv1lp42_19 (by omega) (by omega)) (by omega))
                  · intro h27
                    refine zw_7 zr_188_51 rfl ?_
                    refine zw_4 zr_188_52 rfl ?_
                    refine zw_C zr_188_54 (Or.inl rfl) zm_181 rfl rfl ⟨Nat.le_of_ble_eq_true rfl, Nat.le_of_ble_eq_true rfl, Nat.le_of_ble_eq_true rfl, rfl, by decide⟩ (by omega) (P := (fun v m' => zW E (d) 188 57 [(2, 69), (0, a0), (0, a1), (0, i7), (0, i16), (9, 0), (9, 0)] (if v.1 = 9 then [] else v :: []) m' Q)) ?_ (fun _ _ h => h)
                    generalize hQ1 : (fun v m' => zW E (d) 188 57 [(2, 69), (0, a0), (0, a1), (0, i7), (0, i16), (9, 0), (9, 0)] (if v.1 = 9 then [] else v :: []) m' Q) = Q1
                    show zW E (d - 1) 181 0 [(2, 69), (0, i16)] [] m17 Q1
                    refine zw_7 zr_181_0 rfl ?_
                    refine zw_3 zr_181_1 rfl ?_
                    refine zw_push zr_181_2 ?_
                    refine zw_C zr_181_3 (Or.inl rfl) zm_144 rfl rfl ⟨Nat.le_of_ble_eq_true rfl, Nat.le_of_ble_eq_true rfl, Nat.le_of_ble_eq_true rfl, rfl, by decide⟩ (by omega) (P := (fun v m' => zW E (d - 1) 181 6 [(2, 69), (0, i16)] (if v.1 = 9 then [] else v :: []) m' Q1)) ?_ (fun _ _ h => h)
                    generalize hQ2 : (fun v m' => zW E (d - 1) 181 6 [(2, 69), (0, i16)] (if v.1 = 9 then [] else v :: []) m' Q1) = Q2
                    show zW E (d - 1 - 1) 144 0 [(2, 69), (0, i16), (0, 4)] [] m17 Q2
                    refine zw_7 zr_144_0 rfl ?_
                    refine zw_46r (s := 70) zr_144_1 rfl rfl rfl rfl ?_
                    refine zw_push zr_144_4 ?_
                    refine zw_push zr_144_6 ?_
                    refine zw_3 zr_144_8 rfl ?_
                    refine zw_18 zr_144_9 (by omega) ?_
                    refine zw_16 zr_144_10 (by omega) ?_
                    refine zw_3 zr_144_11 rfl ?_
                    refine zw_16 zr_144_12 (by omega) ?_
                    refine zw_48 (c := 70) (len := 826) zr_144_13 rfl rfl (by omega) (by omega) ?_
                    intro x28 ex28
                    have bx28 := ib_70_m4 hIm17 (k := (((90 + (6 * i16)) + 4)).toNat) (by omega)
                    rw [← ex28] at bx28
                    have qx28 : x28 = F70 (((90 + (6 * i16)) + 4)).toNat := by rw [← fm17_70]; exact ex28
                    clear ex28
                    refine zw_R zr_144_14 (by decide) zm_144 (v := (0, x28)) rfl ?_
                    rw [← hQ2]
                    show zW E (d - 1) 181 6 [(2, 69), (0, i16)] [(0, x28)] m17 Q1
                    refine zw_40_4 zr_181_6 ?_ ?_
                    · intro h29
                      refine zw_push zr_181_22 ?_
                      refine zw_R zr_181_23 (by decide) zm_181 (v := (0, 0)) (zRetB (by omega)) ?_
                      rw [← hQ1]
                      show zW E (d) 188 57 [(2, 69), (0, a0), (0, a1), (0, i7), (0, i16), (9, 0), (9, 0)] [(0, 0)] m17 Q
                      refine zw_40_1 zr_188_57 ?_ ?_
                      · intro h30
                        refine zw_15 (c := 1) (L' := [(2, 69), (0, a0), (0, a1), (0, i7), (0, (i16 + 1)), (9, 0), (9, 0)]) zr_188_174 rfl (by decide) (by omega) rfl ?_
                        refine zw_42 zr_188_177 ?_
                        exact zw_less (L := [(2, 69), (0, a0), (0, a1), (0, i7), (0, (i16 + 1)), (9, 0), (9, 0)]) ⟨Or.inr rfl, Or.inr rfl, Or.inr rfl, Or.inr rfl, Or.inr rfl, Or.inl rfl, Or.inl rfl, trivial⟩ (ihlp42_19 ((i16 + 1)) (f18) m17 hIm17 hFm17  km17_70_823 fm17_70 fm17_81 (by omega) (by omega) (by omega) (by first | exact zG2_put hv1lp42_19 (by omega) (by omega) (by omega) (by omega) (by omega) (by omega) | exact zG2_skip hv1lp42_19 (by omega) (by omega)) (by omega))
                      · intro h32; omega
                    · intro h33
                      refine zw_7 zr_181_9 rfl ?_
                      refine zw_3 zr_181_10 rfl ?_
                      refine zw_push zr_181_11 ?_
                      refine zw_C zr_181_12 (Or.inl rfl) zm_144 rfl rfl ⟨Nat.le_of_ble_eq_true rfl, Nat.le_of_ble_eq_true rfl, Nat.le_of_ble_eq_true rfl, rfl, by decide⟩ (by omega) (P := (fun v m' => zW E (d - 1) 181 15 [(2, 69), (0, i16)] (if v.1 = 9 then [] else v :: []) m' Q1)) ?_ (fun _ _ h => h)
                      generalize hQ2 : (fun v m' => zW E (d - 1) 181 15 [(2, 69), (0, i16)] (if v.1 = 9 then [] else v :: []) m' Q1) = Q2
                      show zW E (d - 1 - 1) 144 0 [(2, 69), (0, i16), (0, 5)] [] m17 Q2
                      refine zw_7 zr_144_0 rfl ?_
                      refine zw_46r (s := 70) zr_144_1 rfl rfl rfl rfl ?_
                      refine zw_push zr_144_4 ?_
                      refine zw_push zr_144_6 ?_
                      refine zw_3 zr_144_8 rfl ?_
                      refine zw_18 zr_144_9 (by omega) ?_
                      refine zw_16 zr_144_10 (by omega) ?_
                      refine zw_3 zr_144_11 rfl ?_
                      refine zw_16 zr_144_12 (by omega) ?_
                      refine zw_48 (c := 70) (len := 826) zr_144_13 rfl rfl (by omega) (by omega) ?_
                      intro x34 ex34
                      have bx34 := ib_70_m5 hIm17 (k := (((90 + (6 * i16)) + 5)).toNat) (by omega)
                      rw [← ex34] at bx34
                      have qx34 : x34 = F70 (((90 + (6 * i16)) + 5)).toNat := by rw [← fm17_70]; exact ex34
                      clear ex34
                      refine zw_R zr_144_14 (by decide) zm_144 (v := (0, x34)) rfl ?_
                      rw [← hQ2]
                      show zW E (d - 1) 181 15 [(2, 69), (0, i16)] [(0, x34)] m17 Q1
                      refine zw_40_4 zr_181_15 ?_ ?_
                      · intro h35
                        refine zw_push zr_181_22 ?_
                        refine zw_R zr_181_23 (by decide) zm_181 (v := (0, 0)) (zRetB (by omega)) ?_
                        rw [← hQ1]
                        show zW E (d) 188 57 [(2, 69), (0, a0), (0, a1), (0, i7), (0, i16), (9, 0), (9, 0)] [(0, 0)] m17 Q
                        refine zw_40_1 zr_188_57 ?_ ?_
                        · intro h36
                          refine zw_15 (c := 1) (L' := [(2, 69), (0, a0), (0, a1), (0, i7), (0, (i16 + 1)), (9, 0), (9, 0)]) zr_188_174 rfl (by decide) (by omega) rfl ?_
                          refine zw_42 zr_188_177 ?_
                          exact zw_less (L := [(2, 69), (0, a0), (0, a1), (0, i7), (0, (i16 + 1)), (9, 0), (9, 0)]) ⟨Or.inr rfl, Or.inr rfl, Or.inr rfl, Or.inr rfl, Or.inr rfl, Or.inl rfl, Or.inl rfl, trivial⟩ (ihlp42_19 ((i16 + 1)) (f18) m17 hIm17 hFm17  km17_70_823 fm17_70 fm17_81 (by omega) (by omega) (by omega) (by first | exact zG2_put hv1lp42_19 (by omega) (by omega) (by omega) (by omega) (by omega) (by omega) | exact zG2_skip hv1lp42_19 (by omega) (by omega)) (by omega))
                        · intro h38; omega
                      · intro h39
                        refine zw_push zr_181_18 ?_
                        refine zw_42 zr_181_19 ?_
                        refine zw_R zr_181_23 (by decide) zm_181 (v := (0, 1)) (zRetB (by omega)) ?_
                        rw [← hQ1]
                        show zW E (d) 188 57 [(2, 69), (0, a0), (0, a1), (0, i7), (0, i16), (9, 0), (9, 0)] [(0, 1)] m17 Q
                        refine zw_40_1 zr_188_57 ?_ ?_
                        · intro h40; omega
                        · intro h41
                          refine zw_4 zr_188_60 rfl ?_
                          refine zw_3 zr_188_62 rfl ?_
                          refine zw_41_1 zr_188_63 ?_ ?_
                          · intro h42
                            refine zw_15 (c := 1) (L' := [(2, 69), (0, a0), (0, a1), (0, i7), (0, (i16 + 1)), (9, 0), (9, 0)]) zr_188_174 rfl (by decide) (by omega) rfl ?_
                            refine zw_42 zr_188_177 ?_
                            exact zw_less (L := [(2, 69), (0, a0), (0, a1), (0, i7), (0, (i16 + 1)), (9, 0), (9, 0)]) ⟨Or.inr rfl, Or.inr rfl, Or.inr rfl, Or.inr rfl, Or.inr rfl, Or.inl rfl, Or.inl rfl, trivial⟩ (ihlp42_19 ((i16 + 1)) (f18) m17 hIm17 hFm17  km17_70_823 fm17_70 fm17_81 (by omega) (by omega) (by omega) (by first | exact zG2_put hv1lp42_19 (by omega) (by omega) (by omega) (by omega) (by omega) (by omega) | exact zG2_skip hv1lp42_19 (by omega) (by omega)) (by omega))
                          · intro h44
                            refine zw_7 zr_188_66 rfl ?_
                            refine zw_4 zr_188_67 rfl ?_
                            refine zw_push zr_188_69 ?_
                            refine zw_C zr_188_70 (Or.inl rfl) zm_144 rfl rfl ⟨Nat.le_of_ble_eq_true rfl, Nat.le_of_ble_eq_true rfl, Nat.le_of_ble_eq_true rfl, rfl, by decide⟩ (by omega) (P := (fun v m' => zW E (d) 188 73 [(2, 69), (0, a0), (0, a1), (0, i7), (0, i16), (9, 0), (9, 0)] (if v.1 = 9 then [] else v :: []) m' Q)) ?_ (fun _ _ h => h)
                            generalize hQ1 : (fun v m' => zW E (d) 188 73 [(2, 69), (0, a0), (0, a1), (0, i7), (0, i16), (9, 0), (9, 0)] (if v.1 = 9 then [] else v :: []) m' Q) = Q1
                            show zW E (d - 1) 144 0 [(2, 69), (0, i16), (0, 1)] [] m17 Q1
                            refine zw_7 zr_144_0 rfl ?_
                            refine zw_46r (s := 70) zr_144_1 rfl rfl rfl rfl ?_
                            refine zw_push zr_144_4 ?_
                            refine zw_push zr_144_6 ?_
                            refine zw_3 zr_144_8 rfl ?_
                            refine zw_18 zr_144_9 (by omega) ?_
                            refine zw_16 zr_144_10 (by omega) ?_
                            refine zw_3 zr_144_11 rfl ?_
                            refine zw_16 zr_144_12 (by omega) ?_
                            refine zw_48 (c := 70) (len := 826) zr_144_13 rfl rfl (by omega) (by omega) ?_
                            intro x45 ex45
                            have bx45 := ib_70_m1 hIm17 (k := (((90 + (6 * i16)) + 1)).toNat) (by omega)
                            rw [← ex45] at bx45
                            have qx45 : x45 = F70 (((90 + (6 * i16)) + 1)).toNat := by rw [← fm17_70]; exact ex45
                            clear ex45
                            refine zw_R zr_144_14 (by decide) zm_144 (v := (0, x45)) rfl ?_
                            rw [← hQ1]
                            show zW E (d) 188 73 [(2, 69), (0, a0), (0, a1), (0, i7), (0, i16), (9, 0), (9, 0)] [(0, x45)] m17 Q
                            refine zw_10 (L' := [(2, 69), (0, a0), (0, a1), (0, i7), (0, i16), (0, x45), (9, 0)]) zr_188_73 (Nat.le_of_ble_eq_true rfl) rfl ?_
                            refine zw_7 zr_188_75 rfl ?_
                            refine zw_4 zr_188_76 rfl ?_
                            refine zw_push zr_188_78 ?_
                            refine zw_C zr_188_79 (Or.inl rfl) zm_144 rfl rfl ⟨Nat.le_of_ble_eq_true rfl, Nat.le_of_ble_eq_true rfl, Nat.le_of_ble_eq_true rfl, rfl, by decide⟩ (by omega) (P := (fun v m' => zW E (d) 188 82 [(2, 69), (0, a0), (0, a1), (0, i7), (0, i16), (0, x45), (9, 0)] (if v.1 = 9 then [] else v :: []) m' Q)) ?_ (fun _ _ h => h)
                            generalize hQ1 : (fun v m' => zW E (d) 188 82 [(2, 69), (0, a0), (0, a1), (0, i7), (0, i16), (0, x45), (9, 0)] (if v.1 = 9 then [] else v :: []) m' Q) = Q1
                            show zW E (d - 1) 144 0 [(2, 69), (0, i16), (0, 2)] [] m17 Q1
                            refine zw_7 zr_144_0 rfl ?_
                            refine zw_46r (s := 70) zr_144_1 rfl rfl rfl rfl ?_
                            refine zw_push zr_144_4 ?_
                            refine zw_push zr_144_6 ?_
                            refine zw_3 zr_144_8 rfl ?_
                            refine zw_18 zr_144_9 (by omega) ?_
                            refine zw_16 zr_144_10 (by omega) ?_
                            refine zw_3 zr_144_11 rfl ?_
                            refine zw_16 zr_144_12 (by omega) ?_
                            refine zw_48 (c := 70) (len := 826) zr_144_13 rfl rfl (by omega) (by omega) ?_
                            intro x46 ex46
                            have bx46 := ib_70_m2 hIm17 (k := (((90 + (6 * i16)) + 2)).toNat) (by omega)
                            rw [← ex46] at bx46
                            have qx46 : x46 = F70 (((90 + (6 * i16)) + 2)).toNat := by rw [← fm17_70]; exact ex46
                            clear ex46
                            refine zw_R zr_144_14 (by decide) zm_144 (v := (0, x46)) rfl ?_
                            rw [← hQ1]
                            show zW E (d) 188 82 [(2, 69), (0, a0), (0, a1), (0, i7), (0, i16), (0, x45), (9, 0)] [(0, x46)] m17 Q
                            refine zw_10 (L' := [(2, 69), (0, a0), (0, a1), (0, i7), (0, i16), (0, x45), (0, x46)]) zr_188_82 (Nat.le_of_ble_eq_true rfl) rfl ?_
                            refine zw_7 zr_188_84 rfl ?_
                            refine zw_46r (s := 81) zr_188_85 rfl rfl rfl rfl ?_
                            refine zw_4 zr_188_88 rfl ?_
                            refine zw_7 zr_188_90 rfl ?_
                            refine zw_46r (s := 81) zr_188_91 rfl rfl rfl rfl ?_
                            refine zw_4 zr_188_94 rfl ?_
                            refine zw_48 (c := 81) (len := 10) zr_188_96 rfl rfl (by omega) (by omega) ?_
                            intro x47 ex47
                            have bx47 := ib_81 hIm17 (k := (x46).toNat) (by omega)
                            rw [← ex47] at bx47
                            have wx47 := zcg (m17 81) (x46).toNat (a0.toNat)
                            have qx47 : x47 = f18 (x46).toNat := by rw [← fm17_81]; exact ex47
                            refine zw_push zr_188_97 ?_
                            refine zw_16 zr_188_98 (by omega) ?_
                            refine zw_7 zr_188_99 rfl ?_
                            refine zw_46r (s := 81) zr_188_100 rfl rfl rfl rfl ?_
                            refine zw_4 zr_188_103 rfl ?_
                            refine zw_48 (c := 81) (len := 10) zr_188_105 rfl rfl (by omega) (by omega) ?_
                            intro x48 ex48
                            have bx48 := ib_81 hIm17 (k := (x45).toNat) (by omega)
                            rw [← ex48] at bx48
                            have wx48 := zcg (m17 81) (x45).toNat (a0.toNat)
                            have qx48 : x48 = f18 (x45).toNat := by rw [← fm17_81]; exact ex48
                            refine zw_41_3 zr_188_106 ?_ ?_
                            · intro h49
                              refine zw_7 zr_188_121 rfl ?_
                              refine zw_46r (s := 81) zr_188_122 rfl rfl rfl rfl ?_
                              refine zw_4 zr_188_125 rfl ?_
                              refine zw_48k (c := 81) (len := 10) zr_188_127 rfl rfl (by omega) (by omega) rfl ex48.symm ?_
                              refine zw_49 (c := 81) (len := 10) zr_188_128 rfl rfl (by omega) (by omega) ?_
                              intro m50 em50
                              have hIm50 : zInv m50 := by rw [em50]; exact iu_81 hIm17 (by omega)
                              have hFm50 : zFr W_188 m0 m50 := by rw [em50]; exact hFm17.any rfl
                              have km50_70_823 : m50 70 823 = g0 := by rw [em50, zUp_ne (by omega)]; exact km17_70_823
                              have w0m50 : ((a0.toNat) = (x45).toNat ∧ m50 81 (a0.toNat) = x48) ∨ ((a0.toNat) ≠ (x45).toNat ∧ m50 81 (a0.toNat) = m17 81 (a0.toNat)) := by rw [em50]; exact zUp_w _ _ _ _ _
                              have fm50_70 : m50 70 = F70 := by rw [em50, zUp_fn (by decide)]; exact fm17_70
                              have fm50_81 : m50 81 = zPt f18 ((x45).toNat) x48 := by rw [em50]; exact (zUp_ff (m := m17)).trans (congrArg (fun q => zPt q ((x45).toNat) x48) fm17_81)
                              clear em50
                              refine zw_7 zr_188_129 rfl ?_
                              refine zw_46r (s := 81) zr_188_130 rfl rfl rfl rfl ?_
                              refine zw_4 zr_188_133 rfl ?_
                              refine zw_7 zr_188_135 rfl ?_
                              refine zw_46r (s := 81) zr_188_136 rfl rfl rfl rfl ?_
                              refine zw_4 zr_188_139 rfl ?_
                              refine zw_48 (c := 81) (len := 10) zr_188_141 rfl rfl (by omega) (by omega) ?_
                              intro x51 ex51
                              have bx51 := ib_81 hIm50 (k := (x45).toNat) (by omega)
                              rw [← ex51] at bx51
                              have wx51 := zcg (m50 81) (x45).toNat (a0.toNat)
                              have qx51 : x51 = (zPt f18 ((x45).toNat) x48) (x45).toNat := by rw [← fm50_81]; exact ex51
                              refine zw_push zr_188_142 ?_
                              refine zw_16 zr_188_143 (by omega) ?_
                              refine zw_7 zr_188_144 rfl ?_
                              refine zw_46r (s := 81) zr_188_145 rfl rfl rfl rfl ?_
                              refine zw_4 zr_188_148 rfl ?_
                              refine zw_48 (c := 81) (len := 10) zr_188_150 rfl rfl (by omega) (by omega) ?_
                              intro x52 ex52
                              have bx52 := ib_81 hIm50 (k := (x46).toNat) (by omega)
                              rw [← ex52] at bx52
                              have wx52 := zcg (m50 81) (x46).toNat (a0.toNat)
                              have qx52 : x52 = (zPt f18 ((x45).toNat) x48) (x46).toNat := by rw [← fm50_81]; exact ex52
                              refine zw_41_3 zr_188_151 ?_ ?_
                              · intro h53
                                refine zw_7 zr_188_166 rfl ?_
                                refine zw_46r (s := 81) zr_188_167 rfl rfl rfl rfl ?_
                                refine zw_4 zr_188_170 rfl ?_
                                refine zw_48k (c := 81) (len := 10) zr_188_172 rfl rfl (by omega) (by omega) rfl ex52.symm ?_
                                refine zw_49 (c := 81) (len := 10) zr_188_173 rfl rfl (by omega) (by omega) ?_
                                intro m54 em54
                                have hIm54 : zInv m54 := by rw [em54]; exact iu_81 hIm50 (by omega)
                                have hFm54 : zFr W_188 m0 m54 := by rw [em54]; exact hFm50.any rfl
                                have km54_70_823 : m54 70 823 = g0 := by rw [em54, zUp_ne (by omega)]; exact km50_70_823
                                have w0m54 : ((a0.toNat) = (x46).toNat ∧ m54 81 (a0.toNat) = x52) ∨ ((a0.toNat) ≠ (x46).toNat ∧ m54 81 (a0.toNat) = m50 81 (a0.toNat)) := by rw [em54]; exact zUp_w _ _ _ _ _
                                have fm54_70 : m54 70 = F70 := by rw [em54, zUp_fn (by decide)]; exact fm50_70
                                have fm54_81 : m54 81 = zPt (zPt f18 ((x45).toNat) x48) ((x46).toNat) x52 := by rw [em54]; exact (zUp_ff (m := m50)).trans (congrArg (fun q => zPt q ((x46).toNat) x52) fm50_81)
                                clear em54
                                refine zw_15 (c := 1) (L' := [(2, 69), (0, a0), (0, a1), (0, i7), (0, (i16 + 1)), (0, x45), (0, x46)]) zr_188_174 rfl (by decide) (by omega) rfl ?_
                                refine zw_42 zr_188_177 ?_
                                exact zw_less (L := [(2, 69), (0, a0), (0, a1), (0, i7), (0, (i16 + 1)), (9, 0), (9, 0)]) ⟨Or.inr rfl, Or.inr rfl, Or.inr rfl, Or.inr rfl, Or.inr rfl, Or.inl rfl, Or.inl rfl, trivial⟩ (ihlp42_19 ((i16 + 1)) (zPt (zPt f18 ((x45).toNat) x48) ((x46).toNat) x52) m54 hIm54 hFm54  km54_70_823 fm54_70 fm54_81 (by omega) (by omega) (by omega) (by first | exact zG2_put hv1lp42_19 (by omega) (by omega) (by omega) (by omega) (by omega) (by omega) | exact zG2_skip hv1lp42_19 (by omega) (by omega)) (by omega))
                              · intro h56
                                refine zw_7 zr_188_154 rfl ?_
                                refine zw_46r (s := 81) zr_188_155 rfl rfl rfl rfl ?_
                                refine zw_4 zr_188_158 rfl ?_
                                refine zw_48k (c := 81) (len := 10) zr_188_160 rfl rfl (by omega) (by omega) rfl ex51.symm ?_
                                refine zw_push zr_188_161 ?_
                                refine zw_16 zr_188_162 (by omega) ?_
                                refine zw_42 zr_188_163 ?_
                                refine zw_49 (c := 81) (len := 10) zr_188_173 rfl rfl (by omega) (by omega) ?_
                                intro m57 em57
                                have hIm57 : zInv m57 := by rw [em57]; exact iu_81 hIm50 (by omega)
                                have hFm57 : zFr W_188 m0 m57 := by rw [em57]; exact hFm50.any rfl
                                have km57_70_823 : m57 70 823 = g0 := by rw [em57, zUp_ne (by omega)]; exact km50_70_823
                                have w0m57 : ((a0.toNat) = (x46).toNat ∧ m57 81 (a0.toNat) = (x51 + 1)) ∨ ((a0.toNat) ≠ (x46).toNat ∧ m57 81 (a0.toNat) = m50 81 (a0.toNat)) := by rw [em57]; exact zUp_w _ _ _ _ _
                                have fm57_70 : m57 70 = F70 := by rw [em57, zUp_fn (by decide)]; exact fm50_70
                                have fm57_81 : m57 81 = zPt (zPt f18 ((x45).toNat) x48) ((x46).toNat) ((x51 + 1)) := by rw [em57]; exact (zUp_ff (m := m50)).trans (congrArg (fun q => zPt q ((x46).toNat) ((x51 + 1))) fm50_81)
                                clear em57
                                refine zw_15 (c := 1) (L' := [(2, 69), (0, a0), (0, a1), (0, i7), (0, (i16 + 1)), (0, x45), (0, x46)]) zr_188_174 rfl (by decide) (by omega) rfl ?_
                                refine zw_42 zr_188_177 ?_
                                exact zw_less (L := [(2, 69), (0, a0), (0, a1), (0, i7), (0, (i16 + 1)), (9, 0), (9, 0)]) ⟨Or.inr rfl, Or.inr rfl, Or.inr rfl, Or.inr rfl, Or.inr rfl, Or.inl rfl, Or.inl rfl, trivial⟩ (ihlp42_19 ((i16 + 1)) (zPt (zPt f18 ((x45).toNat) x48) ((x46).toNat) ((x51 + 1))) m57 hIm57 hFm57  km57_70_823 fm57_70 fm57_81 (by omega) (by omega) (by omega) (by first | exact zG2_put hv1lp42_19 (by omega) (by omega) (by omega) (by omega) (by omega) (by omega) | exact zG2_skip hv1lp42_19 (by omega) (by omega)) (by omega))
                            · intro h59
                              refine zw_7 zr_188_109 rfl ?_
                              refine zw_46r (s := 81) zr_188_110 rfl rfl rfl rfl ?_
                              refine zw_4 zr_188_113 rfl ?_
                              refine zw_48k (c := 81) (len := 10) zr_188_115 rfl rfl (by omega) (by omega) rfl ex47.symm ?_
                              refine zw_push zr_188_116 ?_
                              refine zw_16 zr_188_117 (by omega) ?_
                              refine zw_42 zr_188_118 ?_
                              refine zw_49 (c := 81) (len := 10) zr_188_128 rfl rfl (by omega) (by omega) ?_
                              intro m60 em60
                              have hIm60 : zInv m60 := by rw [em60]; exact iu_81 hIm17 (by omega)
                              have hFm60 : zFr W_188 m0 m60 := by rw [em60]; exact hFm17.any rfl
                              have km60_70_823 : m60 70 823 = g0 := by rw [em60, zUp_ne (by omega)]; exact km17_70_823
                              have w0m60 : ((a0.toNat) = (x45).toNat ∧ m60 81 (a0.toNat) = (x47 + 1)) ∨ ((a0.toNat) ≠ (x45).toNat ∧ m60 81 (a0.toNat) = m17 81 (a0.toNat)) := by rw [em60]; exact zUp_w _ _ _ _ _
                              have fm60_70 : m60 70 = F70 := by rw [em60, zUp_fn (by decide)]; exact fm17_70
                              have fm60_81 : m60 81 = zPt f18 ((x45).toNat) ((x47 + 1)) := by rw [em60]; exact (zUp_ff (m := m17)).trans (congrArg (fun q => zPt q ((x45).toNat) ((x47 + 1))) fm17_81)
                              clear em60
                              refine zw_7 zr_188_129 rfl ?_
                              refine zw_46r (s := 81) zr_188_130 rfl rfl rfl rfl ?_
                              refine zw_4 zr_188_133 rfl ?_
                              refine zw_7 zr_188_135 rfl ?_
                              refine zw_46r (s := 81) zr_188_136 rfl rfl rfl rfl ?_
                              refine zw_4 zr_188_139 rfl ?_
                              refine zw_48 (c := 81) (len := 10) zr_188_141 rfl rfl (by omega) (by omega) ?_
                              intro x61 ex61
                              have bx61 := ib_81 hIm60 (k := (x45).toNat) (by omega)
                              rw [← ex61] at bx61
                              have wx61 := zcg (m60 81) (x45).toNat (a0.toNat)
                              have qx61 : x61 = (zPt f18 ((x45).toNat) ((x47 + 1))) (x45).toNat := by rw [← fm60_81]; exact ex61
                              refine zw_push zr_188_142 ?_
                              refine zw_16 zr_188_143 (by omega) ?_
                              refine zw_7 zr_188_144 rfl ?_
                              refine zw_46r (s := 81) zr_188_145 rfl rfl rfl rfl ?_
                              refine zw_4 zr_188_148 rfl ?_
                              refine zw_48 (c := 81) (len := 10) zr_188_150 rfl rfl (by omega) (by omega) ?_
                              intro x62 ex62
                              have bx62 := ib_81 hIm60 (k := (x46).toNat) (by omega)
                              rw [← ex62] at bx62
                              have wx62 := zcg (m60 81) (x46).toNat (a0.toNat)
                              have qx62 : x62 = (zPt f18 ((x45).toNat) ((x47 + 1))) (x46).toNat := by rw [← fm60_81]; exact ex62
                              refine zw_41_3 zr_188_151 ?_ ?_
                              · intro h63
                                refine zw_7 zr_188_166 rfl ?_
                                refine zw_46r (s := 81) zr_188_167 rfl rfl rfl rfl ?_
                                refine zw_4 zr_188_170 rfl ?_
                                refine zw_48k (c := 81) (len := 10) zr_188_172 rfl rfl (by omega) (by omega) rfl ex62.symm ?_
                                refine zw_49 (c := 81) (len := 10) zr_188_173 rfl rfl (by omega) (by omega) ?_
                                intro m64 em64
                                have hIm64 : zInv m64 := by rw [em64]; exact iu_81 hIm60 (by omega)
                                have hFm64 : zFr W_188 m0 m64 := by rw [em64]; exact hFm60.any rfl
                                have km64_70_823 : m64 70 823 = g0 := by rw [em64, zUp_ne (by omega)]; exact km60_70_823
                                have w0m64 : ((a0.toNat) = (x46).toNat ∧ m64 81 (a0.toNat) = x62) ∨ ((a0.toNat) ≠ (x46).toNat ∧ m64 81 (a0.toNat) = m60 81 (a0.toNat)) := by rw [em64]; exact zUp_w _ _ _ _ _
                                have fm64_70 : m64 70 = F70 := by rw [em64, zUp_fn (by decide)]; exact fm60_70
                                have fm64_81 : m64 81 = zPt (zPt f18 ((x45).toNat) ((x47 + 1))) ((x46).toNat) x62 := by rw [em64]; exact (zUp_ff (m := m60)).trans (congrArg (fun q => zPt q ((x46).toNat) x62) fm60_81)
                                clear em64
                                refine zw_15 (c := 1) (L' := [(2, 69), (0, a0), (0, a1), (0, i7), (0, (i16 + 1)), (0, x45), (0, x46)]) zr_188_174 rfl (by decide) (by omega) rfl ?_
                                refine zw_42 zr_188_177 ?_
                                exact zw_less (L := [(2, 69), (0, a0), (0, a1), (0, i7), (0, (i16 + 1)), (9, 0), (9, 0)]) ⟨Or.inr rfl, Or.inr rfl, Or.inr rfl, Or.inr rfl, Or.inr rfl, Or.inl rfl, Or.inl rfl, trivial⟩ (ihlp42_19 ((i16 + 1)) (zPt (zPt f18 ((x45).toNat) ((x47 + 1))) ((x46).toNat) x62) m64 hIm64 hFm64  km64_70_823 fm64_70 fm64_81 (by omega) (by omega) (by omega) (by first | exact zG2_put hv1lp42_19 (by omega) (by omega) (by omega) (by omega) (by omega) (by omega) | exact zG2_skip hv1lp42_19 (by omega) (by omega)) (by omega))
                              · intro h66
                                refine zw_7 zr_188_154 rfl ?_
                                refine zw_46r (s := 81) zr_188_155 rfl rfl rfl rfl ?_
                                refine zw_4 zr_188_158 rfl ?_
                                refine zw_48k (c := 81) (len := 10) zr_188_160 rfl rfl (by omega) (by omega) rfl ex61.symm ?_
                                refine zw_push zr_188_161 ?_
                                refine zw_16 zr_188_162 (by omega) ?_
                                refine zw_42 zr_188_163 ?_
                                refine zw_49 (c := 81) (len := 10) zr_188_173 rfl rfl (by omega) (by omega) ?_
                                intro m67 em67
                                have hIm67 : zInv m67 := by rw [em67]; exact iu_81 hIm60 (by omega)
                                have hFm67 : zFr W_188 m0 m67 := by rw [em67]; exact hFm60.any rfl
                                have km67_70_823 : m67 70 823 = g0 := by rw [em67, zUp_ne (by omega)]; exact km60_70_823
                                have w0m67 : ((a0.toNat) = (x46).toNat ∧ m67 81 (a0.toNat) = (x61 + 1)) ∨ ((a0.toNat) ≠ (x46).toNat ∧ m67 81 (a0.toNat) = m60 81 (a0.toNat)) := by rw [em67]; exact zUp_w _ _ _ _ _
                                have fm67_70 : m67 70 = F70 := by rw [em67, zUp_fn (by decide)]; exact fm60_70
                                have fm67_81 : m67 81 = zPt (zPt f18 ((x45).toNat) ((x47 + 1))) ((x46).toNat) ((x61 + 1)) := by rw [em67]; exact (zUp_ff (m := m60)).trans (congrArg (fun q => zPt q ((x46).toNat) ((x61 + 1))) fm60_81)
                                clear em67
                                refine zw_15 (c := 1) (L' := [(2, 69), (0, a0), (0, a1), (0, i7), (0, (i16 + 1)), (0, x45), (0, x46)]) zr_188_174 rfl (by decide) (by omega) rfl ?_
                                refine zw_42 zr_188_177 ?_
                                exact zw_less (L := [(2, 69), (0, a0), (0, a1), (0, i7), (0, (i16 + 1)), (9, 0), (9, 0)]) ⟨Or.inr rfl, Or.inr rfl, Or.inr rfl, Or.inr rfl, Or.inr rfl, Or.inl rfl, Or.inl rfl, trivial⟩ (ihlp42_19 ((i16 + 1)) (zPt (zPt f18 ((x45).toNat) ((x47 + 1))) ((x46).toNat) ((x61 + 1))) m67 hIm67 hFm67  km67_70_823 fm67_70 fm67_81 (by omega) (by omega) (by omega) (by first | exact zG2_put hv1lp42_19 (by omega) (by omega) (by omega) (by omega) (by omega) (by omega) | exact zG2_skip hv1lp42_19 (by omega) (by omega)) (by omega))
              exact lp42_19 _ (0) (f9) m8 hIm8 hFm8  km8_70_823 fm8_70 fm8_81 (by omega) (by omega) (by omega) (zG2_0 hv1lp33_10) (Nat.lt_succ_self _)
        exact lp33_10 _ (0) (f3) m2 hIm2 hFm2  km2_70_823 fm2_70 fm2_81 (by omega) (by omega) (by omega) (zG1_0 hv1lp2_4 (by omega) (by omega)) (Nat.lt_succ_self _)
      · intro h71
        refine zw_7 zr_188_8 rfl ?_
        refine zw_46r (s := 81) zr_188_9 rfl rfl rfl rfl ?_
        refine zw_3 zr_188_12 rfl ?_
        refine zw_3 zr_188_13 rfl ?_
        refine zw_3 zr_188_14 rfl ?_
        refine zw_41_4 zr_188_15 ?_ ?_
        · intro h72
          refine zw_push zr_188_22 ?_
          refine zw_49 (c := 81) (len := 10) zr_188_24 rfl rfl (by omega) (by omega) ?_
          intro m73 em73
          have hIm73 : zInv m73 := by rw [em73]; exact iu_81 hIm2 (by omega)
          have hFm73 : zFr W_188 m0 m73 := by rw [em73]; exact hFm2.any rfl
          have km73_70_823 : m73 70 823 = g0 := by rw [em73, zUp_ne (by omega)]; exact km2_70_823
          have w0m73 : ((a0.toNat) = (i1).toNat ∧ m73 81 (a0.toNat) = 100000000) ∨ ((a0.toNat) ≠ (i1).toNat ∧ m73 81 (a0.toNat) = m2 81 (a0.toNat)) := by rw [em73]; exact zUp_w _ _ _ _ _
          have fm73_70 : m73 70 = F70 := by rw [em73, zUp_fn (by decide)]; exact fm2_70
          have fm73_81 : m73 81 = zPt f3 ((i1).toNat) 100000000 := by rw [em73]; exact (zUp_ff (m := m2)).trans (congrArg (fun q => zPt q ((i1).toNat) 100000000) fm2_81)
          clear em73
          refine zw_15 (c := 1) (L' := [(2, 69), (0, a0), (0, a1), (0, (i1 + 1)), (9, 0), (9, 0), (9, 0)]) zr_188_25 rfl (by decide) (by omega) rfl ?_
          refine zw_42 zr_188_28 ?_
          exact zw_less (L := [(2, 69), (0, a0), (0, a1), (0, (i1 + 1)), (9, 0), (9, 0), (9, 0)]) ⟨Or.inr rfl, Or.inr rfl, Or.inr rfl, Or.inr rfl, Or.inl rfl, Or.inl rfl, Or.inl rfl, trivial⟩ (ihlp2_4 ((i1 + 1)) (zPt f3 ((i1).toNat) 100000000) m73 hIm73 hFm73  km73_70_823 fm73_70 fm73_81 (by omega) (by omega) (by omega) (zG0_put hv1lp2_4 (by omega) (by omega)) (by omega))
        · intro h75
          refine zw_push zr_188_18 ?_
          refine zw_42 zr_188_19 ?_
          refine zw_49 (c := 81) (len := 10) zr_188_24 rfl rfl (by omega) (by omega) ?_
          intro m76 em76
          have hIm76 : zInv m76 := by rw [em76]; exact iu_81 hIm2 (by omega)
          have hFm76 : zFr W_188 m0 m76 := by rw [em76]; exact hFm2.any rfl
          have km76_70_823 : m76 70 823 = g0 := by rw [em76, zUp_ne (by omega)]; exact km2_70_823
          have w0m76 : ((a0.toNat) = (i1).toNat ∧ m76 81 (a0.toNat) = 0) ∨ ((a0.toNat) ≠ (i1).toNat ∧ m76 81 (a0.toNat) = m2 81 (a0.toNat)) := by rw [em76]; exact zUp_w _ _ _ _ _
          have fm76_70 : m76 70 = F70 := by rw [em76, zUp_fn (by decide)]; exact fm2_70
          have fm76_81 : m76 81 = zPt f3 ((i1).toNat) 0 := by rw [em76]; exact (zUp_ff (m := m2)).trans (congrArg (fun q => zPt q ((i1).toNat) 0) fm2_81)
          clear em76
          refine zw_15 (c := 1) (L' := [(2, 69), (0, a0), (0, a1), (0, (i1 + 1)), (9, 0), (9, 0), (9, 0)]) zr_188_25 rfl (by decide) (by omega) rfl ?_
          refine zw_42 zr_188_28 ?_
          exact zw_less (L := [(2, 69), (0, a0), (0, a1), (0, (i1 + 1)), (9, 0), (9, 0), (9, 0)]) ⟨Or.inr rfl, Or.inr rfl, Or.inr rfl, Or.inr rfl, Or.inl rfl, Or.inl rfl, Or.inl rfl, trivial⟩ (ihlp2_4 ((i1 + 1)) (zPt f3 ((i1).toNat) 0) m76 hIm76 hFm76  km76_70_823 fm76_70 fm76_81 (by omega) (by omega) (by omega) (zG0_put hv1lp2_4 (by omega) (by omega)) (by omega))
  exact lp2_4 _ (0) (F81) m0 hI0 hF0  hg0 hG70 hG81 (by omega) (by omega) (by omega) (zG0_0) (Nat.lt_succ_self _)

abbrev W_189 : List (Nat × Nat) := [(81, 1000)]
set_option maxHeartbeats 8000000 in
theorem th_189 {E : zE} {d : Nat} {m0 : zM} {a0 : Int} {g0 : Int} {F70 : Nat → Int} {F81 : Nat → Int} (hd : 4 ≤ d) (hI0 : zInv m0) (hg0 : m0 70 823 = g0) (hG70 : m0 70 = F70) (hG81 : m0 81 = F81) (ha0 : 0 ≤ a0 ∧ a0 ≤ 9) : zC E d 189 [(2, 69), (0, a0)] m0 (fun v m' => ∃ r : Int, v = (0, r) ∧ 0 ≤ r ∧ r ≤ 9 ∧ zInv m' ∧ zFr W_189 m0 m' ∧ (zLs (edr F70 g0 (-1)) a0 r)) := by
  have hF0 : zFr W_189 m0 m0 := zFr.rfl
  have bg0 : 0 ≤ m0 70 823 ∧ m0 70 823 ≤ 60 := ib_70_meetings hI0 (by omega)
  rw [hg0] at bg0
  generalize hQ : (fun (v : zV) (m' : zM) => ∃ r : Int, v = (0, r) ∧ 0 ≤ r ∧ r ≤ 9 ∧ zInv m' ∧ zFr W_189 m0 m' ∧ (zLs (edr F70 g0 (-1)) a0 r)) = Q
  show zW E d 189 0 [(2, 69), (0, a0), (9, 0)] [] m0 Q
  refine zw_7 zr_189_0 rfl ?_
  refine zw_3 zr_189_1 rfl ?_
  refine zw_push zr_189_2 ?_
  refine zw_C zr_189_3 (Or.inl rfl) zm_188 rfl rfl ⟨Nat.le_of_ble_eq_true rfl, Nat.le_of_ble_eq_true rfl, Nat.le_of_ble_eq_true rfl, rfl, by decide⟩ (by omega) (th_188 (d := d - 1) (by omega) hI0 (a0 := a0) (a1 := (-1)) (g0 := g0)  (F70 := F70) (F81 := F81) hg0 hG70 hG81 (by omega) (by omega) ) ?_
  rintro _ m1 ⟨rfl, hIm1, gm1, po0_m1, po1_m1⟩
  have hFm1 : zFr W_189 m0 m1 := hF0.trans gm1 rfl
  have km1_70_823 : m1 70 823 = g0 := (gm1 70 823 rfl).trans hg0
  have fm1_70 : m1 70 = F70 := (funext fun k => gm1 70 k rfl).trans hG70
  obtain ⟨f2, fm1_81⟩ : ∃ f, m1 81 = f := ⟨_, rfl⟩
  try rw [fm1_81] at po0_m1
  try rw [fm1_81] at po1_m1
  show zW E (d) 189 6 [(2, 69), (0, a0), (9, 0)] [] m1 Q
  refine zw_push zr_189_6 ?_
  refine zw_9 (L' := [(2, 69), (0, a0), (0, 0)]) zr_189_7 (Nat.le_of_ble_eq_true rfl) rfl ?_
  have lp8_4 : ∀ (nlp8_4 : Nat) (i3 : Int), 0 ≤ i3 → i3 ≤ 9 → (i3 ≤ a0) → (zGe f2 i3) → (10 - i3).toNat < nlp8_4 → zW E (d) 189 8 [(2, 69), (0, a0), (0, i3)] [] m1 Q := by
    intro nlp8_4
    induction nlp8_4 with
    | zero =>
      intros
      exact absurd (by assumption : _ < 0) (Nat.not_lt_zero _)
    | succ nlp8_4 ihlp8_4 =>
      intro i3 li3 ui3 hv0lp8_4 hv1lp8_4 hmlp8_4
      refine zw_7 zr_189_8 rfl ?_
      refine zw_46r (s := 81) zr_189_9 rfl rfl rfl rfl ?_
      refine zw_3 zr_189_12 rfl ?_
      refine zw_48 (c := 81) (len := 10) zr_189_13 rfl rfl (by omega) (by omega) ?_
      intro x6 ex6
      have bx6 := ib_81 hIm1 (k := (i3).toNat) (by omega)
      rw [← ex6] at bx6
      have wx6 := zcg (m1 81) (i3).toNat (a0.toNat)
      have qx6 : x6 = f2 (i3).toNat := by rw [← fm1_81]; exact ex6
      have z7 := zcg f2 (i3).toNat (a0.toNat)
      refine zw_push zr_189_14 ?_
      refine zw_41_0 zr_189_16 ?_ ?_
      · intro h8
        refine zw_3 zr_189_25 rfl ?_
        refine zw_R zr_189_26 (by decide) zm_189 (v := (0, i3)) rfl ?_
        rw [← hQ]; exact ⟨_, rfl, by omega, by omega, hIm1, hFm1, zLs_r (by assumption) hv1lp8_4 (by omega) qx6 (by omega)⟩
      · intro h10
        refine zw_15 (c := 1) (L' := [(2, 69), (0, a0), (0, (i3 + 1))]) zr_189_19 rfl (by decide) (by omega) rfl ?_
        refine zw_42 zr_189_22 ?_
        exact zw_less (L := [(2, 69), (0, a0), (0, (i3 + 1))]) ⟨Or.inr rfl, Or.inr rfl, Or.inr rfl, trivial⟩ (ihlp8_4 ((i3 + 1))  (by omega) (by omega) (by omega) (zGe_s hv1lp8_4 (by omega) qx6 (by omega)) (by omega))
  exact lp8_4 _ (0)  (by omega) (by omega) (by omega) (zGe_0) (Nat.lt_succ_self _)

abbrev W_190 : List (Nat × Nat) := [(81, 1000)]
set_option maxHeartbeats 8000000 in
theorem th_190 {E : zE} {d : Nat} {m0 : zM} {a0 : Int} {g0 : Int} {g1 : Int} {F70 : Nat → Int} (hd : 5 ≤ d) (hI0 : zInv m0) (hg0 : m0 70 822 = g0) (hg1 : m0 70 823 = g1) (hG70 : m0 70 = F70) (ha0 : (-2147483648) ≤ a0 ∧ a0 ≤ 2147483647) : zC E d 190 [(2, 69), (0, a0)] m0 (fun v m' => ∃ r : Int, v = (0, r) ∧ (-2) ≤ r ∧ r ≤ 10 ∧ zInv m' ∧ zFr W_190 m0 m' ∧ ((a0 = -1 ∧ r = isl (edr F70 g1 (-1)) g0.toNat) ∨ ((0 ≤ a0 ∧ a0 < g0) ∧ 0 ≤ r ∧ zLs (edr F70 g1 (-1)) a0 r) ∨ ((a0 < -1 ∨ g0 ≤ a0) ∧ r = -2))) := by
  have hF0 : zFr W_190 m0 m0 := zFr.rfl
  have bg0 : 0 ≤ m0 70 822 ∧ m0 70 822 ≤ 10 := ib_70_players hI0 (by omega)
  rw [hg0] at bg0
  have bg1 : 0 ≤ m0 70 823 ∧ m0 70 823 ≤ 60 := ib_70_meetings hI0 (by omega)
  rw [hg1] at bg1
  generalize hQ : (fun (v : zV) (m' : zM) => ∃ r : Int, v = (0, r) ∧ (-2) ≤ r ∧ r ≤ 10 ∧ zInv m' ∧ zFr W_190 m0 m' ∧ ((a0 = -1 ∧ r = isl (edr F70 g1 (-1)) g0.toNat) ∨ ((0 ≤ a0 ∧ a0 < g0) ∧ 0 ≤ r ∧ zLs (edr F70 g1 (-1)) a0 r) ∨ ((a0 < -1 ∨ g0 ≤ a0) ∧ r = -2))) = Q
  show zW E d 190 0 [(2, 69), (0, a0), (9, 0), (9, 0)] [] m0 Q
  refine zw_3 zr_190_0 rfl ?_
  refine zw_push zr_190_1 ?_
  refine zw_41_1 zr_190_2 ?_ ?_
  · intro h1
    refine zw_3 zr_190_16 rfl ?_
    refine zw_push zr_190_17 ?_
    refine zw_41_1 zr_190_18 ?_ ?_
    · intro h2
      refine zw_push zr_190_27 ?_
      refine zw_9 (L' := [(2, 69), (0, a0), (0, 0), (9, 0)]) zr_190_28 (Nat.le_of_ble_eq_true rfl) rfl ?_
      refine zw_push zr_190_29 ?_
      refine zw_9 (L' := [(2, 69), (0, a0), (0, 0), (0, 0)]) zr_190_30 (Nat.le_of_ble_eq_true rfl) rfl ?_
      have lp31_6 : ∀ (nlp31_6 : Nat) (i3 i4 : Int) (m5 : zM), zInv m5 → zFr W_190 m0 m5 → m5 70 822 = g0 → m5 70 823 = g1 → m5 70 = F70 → 0 ≤ i3 → i3 ≤ 10 → 0 ≤ i4 → i4 ≤ 10 → (i3 = isl (edr F70 g1 (-1)) (i4).toNat) → (i3 ≤ i4 ∧ i4 ≤ g0) → (10 - i4).toNat < nlp31_6 → zW E (d) 190 31 [(2, 69), (0, a0), (0, i3), (0, i4)] [] m5 Q := by
        intro nlp31_6
        induction nlp31_6 with
        | zero =>
          intros
          exact absurd (by assumption : _ < 0) (Nat.not_lt_zero _)
        | succ nlp31_6 ihlp31_6 =>
          intro i3 i4 m5 hIm5 hFm5 km5_70_822 km5_70_823 fm5_70 li3 ui3 li4 ui4 hv0lp31_6 hv1lp31_6 hmlp31_6
          refine zw_3 zr_190_31 rfl ?_
          refine zw_7 zr_190_32 rfl ?_
          refine zw_C zr_190_33 (Or.inl rfl) zm_141 rfl rfl ⟨Nat.le_of_ble_eq_true rfl, Nat.le_of_ble_eq_true rfl, Nat.le_of_ble_eq_true rfl, rfl, by decide⟩ (by omega) (P := (fun v m' => zW E (d) 190 36 [(2, 69), (0, a0), (0, i3), (0, i4)] (if v.1 = 9 then [(0, i4)] else v :: [(0, i4)]) m' Q)) ?_ (fun _ _ h => h)
          generalize hQ1 : (fun v m' => zW E (d) 190 36 [(2, 69), (0, a0), (0, i3), (0, i4)] (if v.1 = 9 then [(0, i4)] else v :: [(0, i4)]) m' Q) = Q1
          show zW E (d - 1) 141 0 [(2, 69)] [] m5 Q1
          refine zw_7 zr_141_0 rfl ?_
          refine zw_46r (s := 70) zr_141_1 rfl rfl rfl rfl ?_
          refine zw_push zr_141_4 ?_
          refine zw_48k (c := 70) (len := 826) zr_141_7 rfl rfl (by omega) (by omega) (show (822 : Int).toNat = 822 by omega) km5_70_822 ?_
          refine zw_R zr_141_8 (by decide) zm_141 (v := (0, g0)) rfl ?_
          rw [← hQ1]
          show zW E (d) 190 36 [(2, 69), (0, a0), (0, i3), (0, i4)] [(0, g0), (0, i4)] m5 Q
          refine zw_41_3 zr_190_36 ?_ ?_
          · intro h8
            refine zw_3 zr_190_62 rfl ?_
            refine zw_R zr_190_63 (by decide) zm_190 (v := (0, i3)) rfl ?_
            rw [← hQ]; exact ⟨_, rfl, by omega, by omega, hIm5, hFm5, by first | exact Or.inl ⟨by omega, by have z := hv0lp31_6; rw [show (i4).toNat = g0.toNat by omega] at z; exact z⟩ | exact Or.inr (Or.inl ⟨by omega, by omega, zz⟩) | exact Or.inr (Or.inr ⟨by omega, rfl⟩)⟩
          · intro h10
            refine zw_3 zr_190_39 rfl ?_
            refine zw_7 zr_190_40 rfl ?_
            refine zw_3 zr_190_41 rfl ?_
            refine zw_C zr_190_42 (Or.inl rfl) zm_189 rfl rfl ⟨Nat.le_of_ble_eq_true rfl, Nat.le_of_ble_eq_true rfl, Nat.le_of_ble_eq_true rfl, rfl, by decide⟩ (by omega) (th_189 (d := d - 1) (by omega) hIm5 (a0 := i4) (g0 := g1)  (F70 := F70) (F81 := m5 81) km5_70_823 fm5_70 rfl (by omega) ) ?_
            rintro _ m11 ⟨r12, rfl, hr12a, hr12b, hIm11, gm11, po0_r12⟩
            have hFm11 : zFr W_190 m0 m11 := hFm5.trans gm11 rfl
            have km11_70_822 : m11 70 822 = g0 := (gm11 70 822 rfl).trans km5_70_822
            have km11_70_823 : m11 70 823 = g1 := (gm11 70 823 rfl).trans km5_70_823
            have fm11_70 : m11 70 = F70 := (funext fun k => gm11 70 k rfl).trans fm5_70
            show zW E (d) 190 45 [(2, 69), (0, a0), (0, i3), (0, i4)] [(0, r12), (0, i3)] m11 Q
            have z13 := isl_r po0_r12 (by omega) (by omega : 0 ≤ i4)
            refine zw_3 zr_190_45 rfl ?_
            refine zw_41_4 zr_190_46 ?_ ?_
            · intro h14
              refine zw_push zr_190_53 ?_
              refine zw_16 zr_190_54 (by omega) ?_
              refine zw_9 (L' := [(2, 69), (0, a0), (0, (i3 + 0)), (0, i4)]) zr_190_55 (Nat.le_of_ble_eq_true rfl) rfl ?_
              refine zw_15 (c := 1) (L' := [(2, 69), (0, a0), (0, (i3 + 0)), (0, (i4 + 1))]) zr_190_56 rfl (by decide) (by omega) rfl ?_
              refine zw_42 zr_190_59 ?_
              exact zw_less (L := [(2, 69), (0, a0), (0, (i3 + 0)), (0, (i4 + 1))]) ⟨Or.inr rfl, Or.inr rfl, Or.inr rfl, Or.inr rfl, trivial⟩ (ihlp31_6 ((i3 + 0)) ((i4 + 1)) m11 hIm11 hFm11  km11_70_822 km11_70_823 fm11_70 (by omega) (by omega) (by omega) (by omega) (by omega) (by omega) (by omega))
            · intro h15
              refine zw_push zr_190_49 ?_
              refine zw_42 zr_190_50 ?_
              refine zw_16 zr_190_54 (by omega) ?_
              refine zw_9 (L' := [(2, 69), (0, a0), (0, (i3 + 1)), (0, i4)]) zr_190_55 (Nat.le_of_ble_eq_true rfl) rfl ?_
              refine zw_15 (c := 1) (L' := [(2, 69), (0, a0), (0, (i3 + 1)), (0, (i4 + 1))]) zr_190_56 rfl (by decide) (by omega) rfl ?_
              refine zw_42 zr_190_59 ?_
              exact zw_less (L := [(2, 69), (0, a0), (0, (i3 + 1)), (0, (i4 + 1))]) ⟨Or.inr rfl, Or.inr rfl, Or.inr rfl, Or.inr rfl, trivial⟩ (ihlp31_6 ((i3 + 1)) ((i4 + 1)) m11 hIm11 hFm11  km11_70_822 km11_70_823 fm11_70 (by omega) (by omega) (by omega) (by omega) (by omega) (by omega) (by omega))
      exact lp31_6 _ (0) (0) m0 hI0 hF0  hg0 hg1 hG70 (by omega) (by omega) (by omega) (by omega) (by rfl) (by omega) (Nat.lt_succ_self _)
    · intro h17; omega
  · intro h18
    refine zw_7 zr_190_5 rfl ?_
    refine zw_3 zr_190_6 rfl ?_
    refine zw_C zr_190_7 (Or.inl rfl) zm_143 rfl rfl ⟨Nat.le_of_ble_eq_true rfl, Nat.le_of_ble_eq_true rfl, Nat.le_of_ble_eq_true rfl, rfl, by decide⟩ (by omega) (P := (fun v m' => zW E (d) 190 10 [(2, 69), (0, a0), (9, 0), (9, 0)] (if v.1 = 9 then [] else v :: []) m' Q)) ?_ (fun _ _ h => h)
    generalize hQ1 : (fun v m' => zW E (d) 190 10 [(2, 69), (0, a0), (9, 0), (9, 0)] (if v.1 = 9 then [] else v :: []) m' Q) = Q1
    show zW E (d - 1) 143 0 [(2, 69), (0, a0)] [] m0 Q1
    refine zw_3 zr_143_0 rfl ?_
    refine zw_36 zr_143_1 ?_
    refine zw_push zr_143_2 ?_
    refine zw_7 zr_143_3 rfl ?_
    refine zw_C zr_143_4 (Or.inl rfl) zm_141 rfl rfl ⟨Nat.le_of_ble_eq_true rfl, Nat.le_of_ble_eq_true rfl, Nat.le_of_ble_eq_true rfl, rfl, by decide⟩ (by omega) (P := (fun v m' => zW E (d - 1) 143 7 [(2, 69), (0, a0)] (if v.1 = 9 then [(1, 0), (1, a0)] else v :: [(1, 0), (1, a0)]) m' Q1)) ?_ (fun _ _ h => h)
    generalize hQ2 : (fun v m' => zW E (d - 1) 143 7 [(2, 69), (0, a0)] (if v.1 = 9 then [(1, 0), (1, a0)] else v :: [(1, 0), (1, a0)]) m' Q1) = Q2
    show zW E (d - 1 - 1) 141 0 [(2, 69)] [] m0 Q2
    refine zw_7 zr_141_0 rfl ?_
    refine zw_46r (s := 70) zr_141_1 rfl rfl rfl rfl ?_
    refine zw_push zr_141_4 ?_
    refine zw_48k (c := 70) (len := 826) zr_141_7 rfl rfl (by omega) (by omega) (show (822 : Int).toNat = 822 by omega) hg0 ?_
    refine zw_R zr_141_8 (by decide) zm_141 (v := (0, g0)) rfl ?_
    rw [← hQ2]
    show zW E (d - 1) 143 7 [(2, 69), (0, a0)] [(0, g0), (1, 0), (1, a0)] m0 Q1
    refine zw_push zr_143_7 ?_
    refine zw_17 zr_143_8 (by omega) ?_
    refine zw_36 zr_143_9 ?_
    refine zw_C zr_143_10 (Or.inr rfl) zm_140 rfl rfl ⟨Nat.le_of_ble_eq_true rfl, Nat.le_of_ble_eq_true rfl, Nat.le_of_ble_eq_true rfl, rfl, by decide⟩ (by omega) (P := (fun v m' => zW E (d - 1) 143 13 [(2, 69), (0, a0)] (if v.1 = 9 then [] else v :: []) m' Q1)) ?_ (fun _ _ h => h)
    generalize hQ2 : (fun v m' => zW E (d - 1) 143 13 [(2, 69), (0, a0)] (if v.1 = 9 then [] else v :: []) m' Q1) = Q2
    show zW E (d - 1 - 1) 140 0 [(1, a0), (9, 0), (1, 0), (9, 0), (1, (g0 - 1)), (9, 0)] [] m0 Q2
    refine zw_5 zr_140_0 rfl ?_
    refine zw_5 zr_140_1 rfl ?_
    refine zw_39_0 zr_140_2 zr_140_3 ?_ ?_
    · intro h19
      refine zw_push zr_140_17 ?_
      refine zw_R zr_140_18 (by decide) zm_140 (v := (0, 0)) (zRetB (by omega)) ?_
      rw [← hQ2]
      show zW E (d - 1) 143 13 [(2, 69), (0, a0)] [(0, 0)] m0 Q1
      refine zw_R zr_143_13 (by decide) zm_143 (v := (0, 0)) (zRetB (by omega)) ?_
      rw [← hQ1]
      show zW E (d) 190 10 [(2, 69), (0, a0), (9, 0), (9, 0)] [(0, 0)] m0 Q
      refine zw_40_4 zr_190_10 ?_ ?_
      · intro h20; omega
      · intro h21
        refine zw_push zr_190_13 ?_
        refine zw_R zr_190_15 (by decide) zm_190 (v := (0, (-2))) rfl ?_
        rw [← hQ]; exact ⟨_, rfl, by omega, by omega, hI0, hF0, by first | exact Or.inl ⟨by omega, by have z := zz; rw [show (zz).toNat = g0.toNat by omega] at z; exact z⟩ | exact Or.inr (Or.inl ⟨by omega, by omega, zz⟩) | exact Or.inr (Or.inr ⟨by omega, rfl⟩)⟩
    · intro h23
      refine zw_5 zr_140_6 rfl ?_
      refine zw_6 zr_140_7 rfl ?_
      refine zw_39_2 zr_140_9 zr_140_10 ?_ ?_
      · intro h24
        refine zw_push zr_140_17 ?_
        refine zw_R zr_140_18 (by decide) zm_140 (v := (0, 0)) (zRetB (by omega)) ?_
        rw [← hQ2]
        show zW E (d - 1) 143 13 [(2, 69), (0, a0)] [(0, 0)] m0 Q1
        refine zw_R zr_143_13 (by decide) zm_143 (v := (0, 0)) (zRetB (by omega)) ?_
        rw [← hQ1]
        show zW E (d) 190 10 [(2, 69), (0, a0), (9, 0), (9, 0)] [(0, 0)] m0 Q
        refine zw_40_4 zr_190_10 ?_ ?_
        · intro h25; omega
        · intro h26
          refine zw_push zr_190_13 ?_
          refine zw_R zr_190_15 (by decide) zm_190 (v := (0, (-2))) rfl ?_
          rw [← hQ]; exact ⟨_, rfl, by omega, by omega, hI0, hF0, by first | exact Or.inl ⟨by omega, by have z := zz; rw [show (zz).toNat = g0.toNat by omega] at z; exact z⟩ | exact Or.inr (Or.inl ⟨by omega, by omega, zz⟩) | exact Or.inr (Or.inr ⟨by omega, rfl⟩)⟩
      · intro h28
        refine zw_push zr_140_13 ?_
        refine zw_42 zr_140_14 ?_
        refine zw_R zr_140_18 (by decide) zm_140 (v := (0, 1)) (zRetB (by omega)) ?_
        rw [← hQ2]
        show zW E (d - 1) 143 13 [(2, 69), (0, a0)] [(0, 1)] m0 Q1
        refine zw_R zr_143_13 (by decide) zm_143 (v := (0, 1)) (zRetB (by omega)) ?_
        rw [← hQ1]
        show zW E (d) 190 10 [(2, 69), (0, a0), (9, 0), (9, 0)] [(0, 1)] m0 Q
        refine zw_40_4 zr_190_10 ?_ ?_
        · intro h29
          refine zw_3 zr_190_16 rfl ?_
          refine zw_push zr_190_17 ?_
          refine zw_41_1 zr_190_18 ?_ ?_
          · intro h30; omega
          · intro h31
            refine zw_7 zr_190_21 rfl ?_
            refine zw_3 zr_190_22 rfl ?_
            refine zw_C zr_190_23 (Or.inl rfl) zm_189 rfl rfl ⟨Nat.le_of_ble_eq_true rfl, Nat.le_of_ble_eq_true rfl, Nat.le_of_ble_eq_true rfl, rfl, by decide⟩ (by omega) (th_189 (d := d - 1) (by omega) hI0 (a0 := a0) (g0 := g1)  (F70 := F70) (F81 := m0 81) hg1 hG70 rfl (by omega) ) ?_
            rintro _ m32 ⟨r33, rfl, hr33a, hr33b, hIm32, gm32, po0_r33⟩
            have hFm32 : zFr W_190 m0 m32 := hF0.trans gm32 rfl
            have km32_70_822 : m32 70 822 = g0 := (gm32 70 822 rfl).trans hg0
            have km32_70_823 : m32 70 823 = g1 := (gm32 70 823 rfl).trans hg1
            have fm32_70 : m32 70 = F70 := (funext fun k => gm32 70 k rfl).trans hG70
            show zW E (d) 190 26 [(2, 69), (0, a0), (9, 0), (9, 0)] [(0, r33)] m32 Q
            refine zw_R zr_190_26 (by decide) zm_190 (v := (0, r33)) rfl ?_
            rw [← hQ]; exact ⟨_, rfl, by omega, by omega, hIm32, hFm32, by first | exact Or.inl ⟨by omega, by have z := zz; rw [show (zz).toNat = g0.toNat by omega] at z; exact z⟩ | exact Or.inr (Or.inl ⟨by omega, by omega, po0_r33⟩) | exact Or.inr (Or.inr ⟨by omega, rfl⟩)⟩
        · intro h35; omega

abbrev W_72 : List (Nat × Nat) := [(61, 1000), (62, 1000)]
set_option maxHeartbeats 8000000 in
theorem th_72 {E : zE} {d : Nat} {m0 : zM} {a0 : Int} {a1 : Int} (hd : 4 ≤ d) (hI0 : zInv m0) (ha0 : 0 ≤ a0 ∧ a0 ≤ 9) (ha1 : 0 ≤ a1 ∧ a1 ≤ 9) : zC E d 72 [(2, 60), (0, a0), (0, a1)] m0 (fun v m' => ∃ r : Int, v = (0, r) ∧ (-2147483648) ≤ r ∧ r ≤ 2147483647 ∧ zInv m' ∧ zFr W_72 m0 m') := by
  have hF0 : zFr W_72 m0 m0 := zFr.rfl
  generalize hQ : (fun (v : zV) (m' : zM) => ∃ r : Int, v = (0, r) ∧ (-2147483648) ≤ r ∧ r ≤ 2147483647 ∧ zInv m' ∧ zFr W_72 m0 m') = Q
  show zW E d 72 0 [(2, 60), (0, a0), (0, a1)] [] m0 Q
  refine zw_7 zr_72_0 rfl ?_
  refine zw_3 zr_72_1 rfl ?_
  refine zw_3 zr_72_2 rfl ?_
  refine zw_C zr_72_3 (Or.inl rfl) zm_68 rfl rfl ⟨Nat.le_of_ble_eq_true rfl, Nat.le_of_ble_eq_true rfl, Nat.le_of_ble_eq_true rfl, rfl, by decide⟩ (by omega) (th_68 (d := d - 1) (by omega) hI0 (a0 := a0) (a1 := a1)      (by omega) (by omega) ) ?_
  rintro _ m1 ⟨r2, rfl, hr2a, hr2b, hIm1, gm1⟩
  have hFm1 : zFr W_72 m0 m1 := hF0.trans gm1 rfl
  show zW E (d) 72 6 [(2, 60), (0, a0), (0, a1)] [(0, r2)] m1 Q
  refine zw_40_1 zr_72_6 ?_ ?_
  · intro h3
    refine zw_push zr_72_18 ?_
    refine zw_R zr_72_20 (by decide) zm_72 (v := (0, (-5))) rfl ?_
    rw [← hQ]; exact ⟨_, rfl, by omega, by omega, hIm1, hFm1⟩
  · intro h4
    refine zw_7 zr_72_9 rfl ?_
    refine zw_46r (s := 62) zr_72_10 rfl rfl rfl rfl ?_
    refine zw_3 zr_72_13 rfl ?_
    refine zw_48 (c := 62) (len := 10) zr_72_14 rfl rfl (by omega) (by omega) ?_
    intro x5 ex5
    have bx5 := hIm1.ra (c := 62) (len := 10) (k := (a0).toNat) rfl (by omega)
    rw [← ex5] at bx5
    clear ex5
    refine zw_42 zr_72_15 ?_
    refine zw_R zr_72_20 (by decide) zm_72 (v := (0, x5)) rfl ?_
    rw [← hQ]; exact ⟨_, rfl, by omega, by omega, hIm1, hFm1⟩

set_option maxHeartbeats 8000000 in
theorem th_73 {E : zE} {d : Nat} {m0 : zM} {a0 : Int} (hd : 1 ≤ d) (hI0 : zInv m0) (ha0 : 0 ≤ a0 ∧ a0 ≤ 9) : zC E d 73 [(2, 60), (0, a0)] m0 (fun v m' => ∃ r : Int, v = (0, r) ∧ 0 ≤ r ∧ r ≤ 9 ∧ m0 = m') := by
  generalize hQ : (fun (v : zV) (m' : zM) => ∃ r : Int, v = (0, r) ∧ 0 ≤ r ∧ r ≤ 9 ∧ m0 = m') = Q
  show zW E d 73 0 [(2, 60), (0, a0), (9, 0)] [] m0 Q
  refine zw_push zr_73_0 ?_
  refine zw_9 (L' := [(2, 60), (0, a0), (0, 0)]) zr_73_1 (Nat.le_of_ble_eq_true rfl) rfl ?_
  have lp2_2 : ∀ (nlp2_2 : Nat) (i1 : Int), 0 ≤ i1 → i1 ≤ 10 → (10 - i1).toNat < nlp2_2 → zW E (d) 73 2 [(2, 60), (0, a0), (0, i1)] [] m0 Q := by
    intro nlp2_2
    induction nlp2_2 with
    | zero =>
      intros
      exact absurd (by assumption : _ < 0) (Nat.not_lt_zero _)
    | succ nlp2_2 ihlp2_2 =>
      intro i1 li1 ui1 hmlp2_2
      refine zw_3 zr_73_2 rfl ?_
      refine zw_7 zr_73_3 rfl ?_
      refine zw_46r (s := 1) zr_73_4 rfl rfl rfl rfl ?_
      obtain ⟨f4, ef4⟩ : ∃ v, m0 1 0 = v := ⟨_, rfl⟩
      have bf4 := ib_1_0 hI0
      rw [ef4] at bf4
      refine zw_46i zr_73_7 ef4 rfl rfl rfl ?_
      refine zw_41_3 zr_73_10 ?_ ?_
      · intro h5
        refine zw_3 zr_73_51 rfl ?_
        refine zw_R zr_73_52 (by decide) zm_73 (v := (0, a0)) rfl ?_
        rw [← hQ]; exact ⟨_, rfl, by omega, by omega, rfl⟩
      · intro h6
        refine zw_7 zr_73_13 rfl ?_
        refine zw_46r (s := 61) zr_73_14 rfl rfl rfl rfl ?_
        refine zw_3 zr_73_17 rfl ?_
        refine zw_48 (c := 61) (len := 10) zr_73_18 rfl rfl (by omega) (by omega) ?_
        intro x7 ex7
        have bx7 := ib_61 hI0 (k := (a0).toNat) (by omega)
        rw [← ex7] at bx7
        clear ex7
        refine zw_3 zr_73_19 rfl ?_
        refine zw_25h zr_73_20 ?_
        intro x8 hx8a hx8b
        refine zw_push zr_73_21 ?_
        refine zw_21m zr_73_22 (by omega) (by omega) ?_
        intro x9 hx9a hx9b
        refine zw_40_1 zr_73_23 ?_ ?_
        · intro h10
          refine zw_15 (c := 1) (L' := [(2, 60), (0, a0), (0, (i1 + 1))]) zr_73_45 rfl (by decide) (by omega) rfl ?_
          refine zw_42 zr_73_48 ?_
          exact zw_less (L := [(2, 60), (0, a0), (0, (i1 + 1))]) ⟨Or.inr rfl, Or.inr rfl, Or.inr rfl, trivial⟩ (ihlp2_2 ((i1 + 1))  (by omega) (by omega)  (by omega))
        · intro h11
          refine zw_7 zr_73_26 rfl ?_
          refine zw_46r (s := 62) zr_73_27 rfl rfl rfl rfl ?_
          refine zw_3 zr_73_30 rfl ?_
          refine zw_48 (c := 62) (len := 10) zr_73_31 rfl rfl (by omega) (by omega) ?_
          intro x12 ex12
          have bx12 := hI0.ra (c := 62) (len := 10) (k := (i1).toNat) rfl (by omega)
          rw [← ex12] at bx12
          clear ex12
          refine zw_7 zr_73_32 rfl ?_
          refine zw_46r (s := 62) zr_73_33 rfl rfl rfl rfl ?_
          refine zw_3 zr_73_36 rfl ?_
          refine zw_48 (c := 62) (len := 10) zr_73_37 rfl rfl (by omega) (by omega) ?_
          intro x13 ex13
          have bx13 := hI0.ra (c := 62) (len := 10) (k := (a0).toNat) rfl (by omega)
          rw [← ex13] at bx13
          clear ex13
          refine zw_push zr_73_38 ?_
          refine zw_17h zr_73_39 ?_
          intro x14 hx14a hx14b
          refine zw_41_4 zr_73_40 ?_ ?_
          · intro h15
            refine zw_15 (c := 1) (L' := [(2, 60), (0, a0), (0, (i1 + 1))]) zr_73_45 rfl (by decide) (by omega) rfl ?_
            refine zw_42 zr_73_48 ?_
            exact zw_less (L := [(2, 60), (0, a0), (0, (i1 + 1))]) ⟨Or.inr rfl, Or.inr rfl, Or.inr rfl, trivial⟩ (ihlp2_2 ((i1 + 1))  (by omega) (by omega)  (by omega))
          · intro h16
            refine zw_3 zr_73_43 rfl ?_
            refine zw_R zr_73_44 (by decide) zm_73 (v := (0, i1)) rfl ?_
            rw [← hQ]; exact ⟨_, rfl, by omega, by omega, rfl⟩
  exact lp2_2 _ (0)  (by omega) (by omega)  (Nat.lt_succ_self _)

set_option maxHeartbeats 8000000 in
theorem th_74 {E : zE} {d : Nat} {m0 : zM} {a0 : Int} {a1 : Int} (hd : 2 ≤ d) (hI0 : zInv m0) (ha0 : 0 ≤ a0 ∧ a0 ≤ 9) (ha1 : 0 ≤ a1 ∧ a1 ≤ 9) : zC E d 74 [(2, 60), (0, a0), (0, a1)] m0 (fun v m' => ∃ r : Int, v = (0, r) ∧ (-5) ≤ r ∧ r ≤ 59 ∧ m0 = m') := by
  generalize hQ : (fun (v : zV) (m' : zM) => ∃ r : Int, v = (0, r) ∧ (-5) ≤ r ∧ r ≤ 59 ∧ m0 = m') = Q
  show zW E d 74 0 [(2, 60), (0, a0), (0, a1), (9, 0), (9, 0), (9, 0)] [] m0 Q
  refine zw_7 zr_74_0 rfl ?_
  refine zw_46r (s := 1) zr_74_1 rfl rfl rfl rfl ?_
  obtain ⟨f1, ef1⟩ : ∃ v, m0 1 1 = v := ⟨_, rfl⟩
  have bf1 := ib_1_1 hI0
  rw [ef1] at bf1
  obtain ⟨f2, ef2⟩ : ∃ v, m0 1 2 = v := ⟨_, rfl⟩
  have bf2 := ib_1_2 hI0
  rw [ef2] at bf2
  obtain ⟨f3, ef3⟩ : ∃ v, m0 1 3 = v := ⟨_, rfl⟩
  have bf3 := ib_1_3 hI0
  rw [ef3] at bf3
  refine zw_C zr_74_4 (Or.inl rfl) zm_53 rfl rfl ⟨Nat.le_of_ble_eq_true rfl, Nat.le_of_ble_eq_true rfl, Nat.le_of_ble_eq_true rfl, rfl, by decide⟩ (by omega) (th_53 (d := d - 1) (by omega) hI0  (g0 := f1) (g1 := f2) (g2 := f3)   ef1 ef2 ef3   ) ?_
  rintro _ _ ⟨r4, rfl, hr4a, hr4b, rfl, po0_r4⟩
  show zW E (d) 74 7 [(2, 60), (0, a0), (0, a1), (9, 0), (9, 0), (9, 0)] [(1, r4)] m0 Q
  refine zw_13 (L' := [(2, 60), (0, a0), (0, a1), (1, r4), (9, 0), (9, 0)]) zr_74_7 (Nat.le_of_ble_eq_true rfl) rfl ?_
  refine zw_push zr_74_8 ?_
  refine zw_10 (L' := [(2, 60), (0, a0), (0, a1), (1, r4), (9, 0), (0, 0)]) zr_74_9 (Nat.le_of_ble_eq_true rfl) rfl ?_
  have lp11_6 : ∀ (nlp11_6 : Nat) (i5 : Int), 0 ≤ i5 → i5 ≤ 60 → (60 - i5).toNat < nlp11_6 → zW E (d) 74 11 [(2, 60), (0, a0), (0, a1), (1, r4), (9, 0), (0, i5)] [] m0 Q := by
    intro nlp11_6
    induction nlp11_6 with
    | zero =>
      intros
      exact absurd (by assumption : _ < 0) (Nat.not_lt_zero _)
    | succ nlp11_6 ihlp11_6 =>
      intro i5 li5 ui5 hmlp11_6
      refine zw_4 zr_74_11 rfl ?_
      refine zw_7 zr_74_13 rfl ?_
      refine zw_46r (s := 1) zr_74_14 rfl rfl rfl rfl ?_
      refine zw_46i zr_74_17 ef1 rfl rfl rfl ?_
      refine zw_41_3 zr_74_20 ?_ ?_
      · intro h8
        refine zw_push zr_74_69 ?_
        refine zw_R zr_74_71 (by decide) zm_74 (v := (0, (-5))) rfl ?_
        rw [← hQ]; exact ⟨_, rfl, by omega, by omega, rfl⟩
      · intro h9
        refine zw_5 zr_74_23 rfl ?_
        refine zw_4 zr_74_24 rfl ?_
        refine zw_34p zr_74_26 (by omega) (by omega) ?_
        intro x10 hx10c hx10a hx10b
        refine zw_push zr_74_27 ?_
        refine zw_30o zr_74_28 (by omega) ?_
        refine zw_push zr_74_29 ?_
        refine zw_39_1 zr_74_30 zr_74_31 ?_ ?_
        · intro h11
          refine zw_15 (c := 1) (L' := [(2, 60), (0, a0), (0, a1), (1, r4), (9, 0), (0, (i5 + 1))]) zr_74_63 rfl (by decide) (by omega) rfl ?_
          refine zw_42 zr_74_66 ?_
          exact zw_less (L := [(2, 60), (0, a0), (0, a1), (1, r4), (9, 0), (0, (i5 + 1))]) ⟨Or.inr rfl, Or.inr rfl, Or.inr rfl, Or.inr rfl, Or.inl rfl, Or.inr rfl, trivial⟩ (ihlp11_6 ((i5 + 1))  (by omega) (by omega)  (by omega))
        · intro h12
          refine zw_7 zr_74_34 rfl ?_
          refine zw_46r (s := 1) zr_74_35 rfl rfl rfl rfl ?_
          refine zw_4 zr_74_38 rfl ?_
          refine zw_3 zr_74_40 rfl ?_
          refine zw_C zr_74_41 (Or.inl rfl) zm_44 rfl rfl ⟨Nat.le_of_ble_eq_true rfl, Nat.le_of_ble_eq_true rfl, Nat.le_of_ble_eq_true rfl, rfl, by decide⟩ (by omega) (P := (fun v m' => zW E (d) 74 44 [(2, 60), (0, a0), (0, a1), (1, r4), (9, 0), (0, i5)] (if v.1 = 9 then [] else v :: []) m' Q)) ?_ (fun _ _ h => h)
          generalize hQ1 : (fun v m' => zW E (d) 74 44 [(2, 60), (0, a0), (0, a1), (1, r4), (9, 0), (0, i5)] (if v.1 = 9 then [] else v :: []) m' Q) = Q1
          show zW E (d - 1) 44 0 [(2, 1), (0, i5), (0, a0)] [] m0 Q1
          refine zw_7 zr_44_0 rfl ?_
          refine zw_46r (s := 6) zr_44_1 rfl rfl rfl rfl ?_
          refine zw_3 zr_44_4 rfl ?_
          refine zw_48 (c := 6) (len := 60) zr_44_5 rfl rfl (by omega) (by omega) ?_
          intro x13 ex13
          have bx13 := ib_6 hI0 (k := (i5).toNat) (by omega)
          rw [← ex13] at bx13
          refine zw_3 zr_44_6 rfl ?_
          refine zw_41_1 zr_44_7 ?_ ?_
          · intro h14
            refine zw_push zr_44_20 ?_
            refine zw_42 zr_44_21 ?_
            refine zw_R zr_44_25 (by decide) zm_44 (v := (0, 1)) (zRetB (by omega)) ?_
            rw [← hQ1]
            show zW E (d) 74 44 [(2, 60), (0, a0), (0, a1), (1, r4), (9, 0), (0, i5)] [(0, 1)] m0 Q
            refine zw_40_1 zr_74_44 ?_ ?_
            · intro h15; omega
            · intro h16
              refine zw_7 zr_74_47 rfl ?_
              refine zw_46r (s := 1) zr_74_48 rfl rfl rfl rfl ?_
              refine zw_4 zr_74_51 rfl ?_
              refine zw_3 zr_74_53 rfl ?_
              refine zw_C zr_74_54 (Or.inl rfl) zm_44 rfl rfl ⟨Nat.le_of_ble_eq_true rfl, Nat.le_of_ble_eq_true rfl, Nat.le_of_ble_eq_true rfl, rfl, by decide⟩ (by omega) (P := (fun v m' => zW E (d) 74 57 [(2, 60), (0, a0), (0, a1), (1, r4), (9, 0), (0, i5)] (if v.1 = 9 then [] else v :: []) m' Q)) ?_ (fun _ _ h => h)
              generalize hQ1 : (fun v m' => zW E (d) 74 57 [(2, 60), (0, a0), (0, a1), (1, r4), (9, 0), (0, i5)] (if v.1 = 9 then [] else v :: []) m' Q) = Q1
              show zW E (d - 1) 44 0 [(2, 1), (0, i5), (0, a1)] [] m0 Q1
              refine zw_7 zr_44_0 rfl ?_
              refine zw_46r (s := 6) zr_44_1 rfl rfl rfl rfl ?_
              refine zw_3 zr_44_4 rfl ?_
              refine zw_48k (c := 6) (len := 60) zr_44_5 rfl rfl (by omega) (by omega) rfl ex13.symm ?_
              refine zw_3 zr_44_6 rfl ?_
              refine zw_41_1 zr_44_7 ?_ ?_
              · intro h17
                refine zw_push zr_44_20 ?_
                refine zw_42 zr_44_21 ?_
                refine zw_R zr_44_25 (by decide) zm_44 (v := (0, 1)) (zRetB (by omega)) ?_
                rw [← hQ1]
                show zW E (d) 74 57 [(2, 60), (0, a0), (0, a1), (1, r4), (9, 0), (0, i5)] [(0, 1)] m0 Q
                refine zw_40_1 zr_74_57 ?_ ?_
                · intro h18; omega
                · intro h19
                  refine zw_4 zr_74_60 rfl ?_
                  refine zw_R zr_74_62 (by decide) zm_74 (v := (0, i5)) rfl ?_
                  rw [← hQ]; exact ⟨_, rfl, by omega, by omega, rfl⟩
              · intro h20
                refine zw_7 zr_44_10 rfl ?_
                refine zw_46r (s := 7) zr_44_11 rfl rfl rfl rfl ?_
                refine zw_3 zr_44_14 rfl ?_
                refine zw_48 (c := 7) (len := 60) zr_44_15 rfl rfl (by omega) (by omega) ?_
                intro x21 ex21
                have bx21 := ib_7 hI0 (k := (i5).toNat) (by omega)
                rw [← ex21] at bx21
                refine zw_3 zr_44_16 rfl ?_
                refine zw_41_4 zr_44_17 ?_ ?_
                · intro h22
                  refine zw_push zr_44_24 ?_
                  refine zw_R zr_44_25 (by decide) zm_44 (v := (0, 0)) (zRetB (by omega)) ?_
                  rw [← hQ1]
                  show zW E (d) 74 57 [(2, 60), (0, a0), (0, a1), (1, r4), (9, 0), (0, i5)] [(0, 0)] m0 Q
                  refine zw_40_1 zr_74_57 ?_ ?_
                  · intro h23
                    refine zw_15 (c := 1) (L' := [(2, 60), (0, a0), (0, a1), (1, r4), (9, 0), (0, (i5 + 1))]) zr_74_63 rfl (by decide) (by omega) rfl ?_
                    refine zw_42 zr_74_66 ?_
                    exact zw_less (L := [(2, 60), (0, a0), (0, a1), (1, r4), (9, 0), (0, (i5 + 1))]) ⟨Or.inr rfl, Or.inr rfl, Or.inr rfl, Or.inr rfl, Or.inl rfl, Or.inr rfl, trivial⟩ (ihlp11_6 ((i5 + 1))  (by omega) (by omega)  (by omega))
                  · intro h24; omega
                · intro h25
                  refine zw_push zr_44_20 ?_
                  refine zw_42 zr_44_21 ?_
                  refine zw_R zr_44_25 (by decide) zm_44 (v := (0, 1)) (zRetB (by omega)) ?_
                  rw [← hQ1]
                  show zW E (d) 74 57 [(2, 60), (0, a0), (0, a1), (1, r4), (9, 0), (0, i5)] [(0, 1)] m0 Q
                  refine zw_40_1 zr_74_57 ?_ ?_
                  · intro h26; omega
                  · intro h27
                    refine zw_4 zr_74_60 rfl ?_
                    refine zw_R zr_74_62 (by decide) zm_74 (v := (0, i5)) rfl ?_
                    rw [← hQ]; exact ⟨_, rfl, by omega, by omega, rfl⟩
          · intro h28
            refine zw_7 zr_44_10 rfl ?_
            refine zw_46r (s := 7) zr_44_11 rfl rfl rfl rfl ?_
            refine zw_3 zr_44_14 rfl ?_
            refine zw_48 (c := 7) (len := 60) zr_44_15 rfl rfl (by omega) (by omega) ?_
            intro x29 ex29
            have bx29 := ib_7 hI0 (k := (i5).toNat) (by omega)
            rw [← ex29] at bx29
            refine zw_3 zr_44_16 rfl ?_
            refine zw_41_4 zr_44_17 ?_ ?_
            · intro h30
              refine zw_push zr_44_24 ?_
              refine zw_R zr_44_25 (by decide) zm_44 (v := (0, 0)) (zRetB (by omega)) ?_
              rw [← hQ1]
              show zW E (d) 74 44 [(2, 60), (0, a0), (0, a1), (1, r4), (9, 0), (0, i5)] [(0, 0)] m0 Q
              refine zw_40_1 zr_74_44 ?_ ?_
              · intro h31
                refine zw_15 (c := 1) (L' := [(2, 60), (0, a0), (0, a1), (1, r4), (9, 0), (0, (i5 + 1))]) zr_74_63 rfl (by decide) (by omega) rfl ?_
                refine zw_42 zr_74_66 ?_
                exact zw_less (L := [(2, 60), (0, a0), (0, a1), (1, r4), (9, 0), (0, (i5 + 1))]) ⟨Or.inr rfl, Or.inr rfl, Or.inr rfl, Or.inr rfl, Or.inl rfl, Or.inr rfl, trivial⟩ (ihlp11_6 ((i5 + 1))  (by omega) (by omega)  (by omega))
              · intro h32; omega
            · intro h33
              refine zw_push zr_44_20 ?_
              refine zw_42 zr_44_21 ?_
              refine zw_R zr_44_25 (by decide) zm_44 (v := (0, 1)) (zRetB (by omega)) ?_
              rw [← hQ1]
              show zW E (d) 74 44 [(2, 60), (0, a0), (0, a1), (1, r4), (9, 0), (0, i5)] [(0, 1)] m0 Q
              refine zw_40_1 zr_74_44 ?_ ?_
              · intro h34; omega
              · intro h35
                refine zw_7 zr_74_47 rfl ?_
                refine zw_46r (s := 1) zr_74_48 rfl rfl rfl rfl ?_
                refine zw_4 zr_74_51 rfl ?_
                refine zw_3 zr_74_53 rfl ?_
                refine zw_C zr_74_54 (Or.inl rfl) zm_44 rfl rfl ⟨Nat.le_of_ble_eq_true rfl, Nat.le_of_ble_eq_true rfl, Nat.le_of_ble_eq_true rfl, rfl, by decide⟩ (by omega) (P := (fun v m' => zW E (d) 74 57 [(2, 60), (0, a0), (0, a1), (1, r4), (9, 0), (0, i5)] (if v.1 = 9 then [] else v :: []) m' Q)) ?_ (fun _ _ h => h)
                generalize hQ1 : (fun v m' => zW E (d) 74 57 [(2, 60), (0, a0), (0, a1), (1, r4), (9, 0), (0, i5)] (if v.1 = 9 then [] else v :: []) m' Q) = Q1
                show zW E (d - 1) 44 0 [(2, 1), (0, i5), (0, a1)] [] m0 Q1
                refine zw_7 zr_44_0 rfl ?_
                refine zw_46r (s := 6) zr_44_1 rfl rfl rfl rfl ?_
                refine zw_3 zr_44_4 rfl ?_
                refine zw_48k (c := 6) (len := 60) zr_44_5 rfl rfl (by omega) (by omega) rfl ex13.symm ?_
                refine zw_3 zr_44_6 rfl ?_
                refine zw_41_1 zr_44_7 ?_ ?_
                · intro h36
                  refine zw_push zr_44_20 ?_
                  refine zw_42 zr_44_21 ?_
                  refine zw_R zr_44_25 (by decide) zm_44 (v := (0, 1)) (zRetB (by omega)) ?_
                  rw [← hQ1]
                  show zW E (d) 74 57 [(2, 60), (0, a0), (0, a1), (1, r4), (9, 0), (0, i5)] [(0, 1)] m0 Q
                  refine zw_40_1 zr_74_57 ?_ ?_
                  · intro h37; omega
                  · intro h38
                    refine zw_4 zr_74_60 rfl ?_
                    refine zw_R zr_74_62 (by decide) zm_74 (v := (0, i5)) rfl ?_
                    rw [← hQ]; exact ⟨_, rfl, by omega, by omega, rfl⟩
                · intro h39
                  refine zw_7 zr_44_10 rfl ?_
                  refine zw_46r (s := 7) zr_44_11 rfl rfl rfl rfl ?_
                  refine zw_3 zr_44_14 rfl ?_
                  refine zw_48k (c := 7) (len := 60) zr_44_15 rfl rfl (by omega) (by omega) rfl ex29.symm ?_
                  refine zw_3 zr_44_16 rfl ?_
                  refine zw_41_4 zr_44_17 ?_ ?_
                  · intro h40
                    refine zw_push zr_44_24 ?_
                    refine zw_R zr_44_25 (by decide) zm_44 (v := (0, 0)) (zRetB (by omega)) ?_
                    rw [← hQ1]
                    show zW E (d) 74 57 [(2, 60), (0, a0), (0, a1), (1, r4), (9, 0), (0, i5)] [(0, 0)] m0 Q
                    refine zw_40_1 zr_74_57 ?_ ?_
                    · intro h41
                      refine zw_15 (c := 1) (L' := [(2, 60), (0, a0), (0, a1), (1, r4), (9, 0), (0, (i5 + 1))]) zr_74_63 rfl (by decide) (by omega) rfl ?_
                      refine zw_42 zr_74_66 ?_
                      exact zw_less (L := [(2, 60), (0, a0), (0, a1), (1, r4), (9, 0), (0, (i5 + 1))]) ⟨Or.inr rfl, Or.inr rfl, Or.inr rfl, Or.inr rfl, Or.inl rfl, Or.inr rfl, trivial⟩ (ihlp11_6 ((i5 + 1))  (by omega) (by omega)  (by omega))
                    · intro h42; omega
                  · intro h43
                    refine zw_push zr_44_20 ?_
                    refine zw_42 zr_44_21 ?_
                    refine zw_R zr_44_25 (by decide) zm_44 (v := (0, 1)) (zRetB (by omega)) ?_
                    rw [← hQ1]
                    show zW E (d) 74 57 [(2, 60), (0, a0), (0, a1), (1, r4), (9, 0), (0, i5)] [(0, 1)] m0 Q
                    refine zw_40_1 zr_74_57 ?_ ?_
                    · intro h44; omega
                    · intro h45
                      refine zw_4 zr_74_60 rfl ?_
                      refine zw_R zr_74_62 (by decide) zm_74 (v := (0, i5)) rfl ?_
                      rw [← hQ]; exact ⟨_, rfl, by omega, by omega, rfl⟩
  exact lp11_6 _ (0)  (by omega) (by omega)  (Nat.lt_succ_self _)
