abbrev W_186 : List (Nat × Nat) := [(80, 1000)]
set_option maxHeartbeats 8000000 in
theorem th_186 {E : zE} {d : Nat} {m0 : zM} {a0 : Int} {a1 : Int} {a2 : Int} (hd : 4 ≤ d) (hI0 : zInv m0) (ha0 : (-2147483648) ≤ a0 ∧ a0 ≤ 2147483647) (ha1 : (-2147483648) ≤ a1 ∧ a1 ≤ 2147483647) (ha2 : (-2147483648) ≤ a2 ∧ a2 ≤ 2147483647) : zC E d 186 [(2, 69), (0, a0), (0, a1), (0, a2)] m0 (fun v m' => ∃ r : Int, v = (0, r) ∧ (-2147483648) ≤ r ∧ r ≤ 2147483647 ∧ zInv m' ∧ zFr W_186 m0 m') := by
  have hF0 : zFr W_186 m0 m0 := zFr.rfl
  generalize hQ : (fun (v : zV) (m' : zM) => ∃ r : Int, v = (0, r) ∧ (-2147483648) ≤ r ∧ r ≤ 2147483647 ∧ zInv m' ∧ zFr W_186 m0 m') = Q
  show zW E d 186 0 [(2, 69), (0, a0), (0, a1), (0, a2)] [] m0 Q
  refine zw_7 zr_186_0 rfl ?_
  refine zw_3 zr_186_1 rfl ?_
  refine zw_C zr_186_2 (Or.inl rfl) zm_143 rfl rfl ⟨Nat.le_of_ble_eq_true rfl, Nat.le_of_ble_eq_true rfl, Nat.le_of_ble_eq_true rfl, rfl, by decide⟩ (by omega) (P := (fun v m' => zW E (d) 186 5 [(2, 69), (0, a0), (0, a1), (0, a2)] (if v.1 = 9 then [] else v :: []) m' Q)) ?_ (fun _ _ h => h)
  generalize hQ1 : (fun v m' => zW E (d) 186 5 [(2, 69), (0, a0), (0, a1), (0, a2)] (if v.1 = 9 then [] else v :: []) m' Q) = Q1
  show zW E (d - 1) 143 0 [(2, 69), (0, a0)] [] m0 Q1
  refine zw_3 zr_143_0 rfl ?_
  refine zw_36 zr_143_1 ?_
  refine zw_push zr_143_2 ?_
  refine zw_7 zr_143_3 rfl ?_
  refine zw_C zr_143_4 (Or.inl rfl) zm_141 rfl rfl ⟨Nat.le_of_ble_eq_true rfl, Nat.le_of_ble_eq_true rfl, Nat.le_of_ble_eq_true rfl, rfl, by decide⟩ (by omega) (P := (fun v m' => zW E (d - 1) 143 7 [(2, 69), (0, a0)] (if v.1 = 9 then [(1, 0), (1, a0)] else v :: [(1, 0), (1, a0)]) m' Q1)) ?_ (fun _ _ h => h)
  generalize hQ2 : (fun v m' => zW E (d - 1) 143 7 [(2, 69), (0, a0)] (if v.1 = 9 then [(1, 0), (1, a0)] else v :: [(1, 0), (1, a0)]) m' Q1) = Q2
  show zW E (d - 1 - 1) 141 0 [(2, 69)] [] m0 Q2
  refine zw_7 zr_141_0 rfl ?_
  refine zw_46r (s := 70) zr_141_1 rfl rfl rfl rfl ?_
  refine zw_push zr_141_4 ?_
  obtain ⟨f1, ef1⟩ : ∃ v, m0 70 822 = v := ⟨_, rfl⟩
  have bf1 : 0 ≤ m0 70 822 ∧ m0 70 822 ≤ 10 := ib_70_players hI0 (by omega)
  rw [ef1] at bf1
  refine zw_48k (c := 70) (len := 826) zr_141_7 rfl rfl (by omega) (by omega) (show (822 : Int).toNat = 822 by omega) ef1 ?_
  refine zw_R zr_141_8 (by decide) zm_141 (v := (0, f1)) rfl ?_
  rw [← hQ2]
  show zW E (d - 1) 143 7 [(2, 69), (0, a0)] [(0, f1), (1, 0), (1, a0)] m0 Q1
  refine zw_push zr_143_7 ?_
  refine zw_17 zr_143_8 (by omega) ?_
  refine zw_36 zr_143_9 ?_
  refine zw_C zr_143_10 (Or.inr rfl) zm_140 rfl rfl ⟨Nat.le_of_ble_eq_true rfl, Nat.le_of_ble_eq_true rfl, Nat.le_of_ble_eq_true rfl, rfl, by decide⟩ (by omega) (P := (fun v m' => zW E (d - 1) 143 13 [(2, 69), (0, a0)] (if v.1 = 9 then [] else v :: []) m' Q1)) ?_ (fun _ _ h => h)
  generalize hQ2 : (fun v m' => zW E (d - 1) 143 13 [(2, 69), (0, a0)] (if v.1 = 9 then [] else v :: []) m' Q1) = Q2
  show zW E (d - 1 - 1) 140 0 [(1, a0), (9, 0), (1, 0), (9, 0), (1, (f1 - 1)), (9, 0)] [] m0 Q2
  refine zw_5 zr_140_0 rfl ?_
  refine zw_5 zr_140_1 rfl ?_
  refine zw_39_0 zr_140_2 zr_140_3 ?_ ?_
  · intro h2
    refine zw_push zr_140_17 ?_
    refine zw_R zr_140_18 (by decide) zm_140 (v := (0, 0)) (zRetB (by omega)) ?_
    rw [← hQ2]
    show zW E (d - 1) 143 13 [(2, 69), (0, a0)] [(0, 0)] m0 Q1
    refine zw_R zr_143_13 (by decide) zm_143 (v := (0, 0)) (zRetB (by omega)) ?_
    rw [← hQ1]
    show zW E (d) 186 5 [(2, 69), (0, a0), (0, a1), (0, a2)] [(0, 0)] m0 Q
    refine zw_40_1 zr_186_5 ?_ ?_
    · intro h3
      refine zw_push zr_186_31 ?_
      refine zw_R zr_186_33 (by decide) zm_186 (v := (0, (-100000))) rfl ?_
      rw [← hQ]; exact ⟨_, rfl, by omega, by omega, hI0, hF0⟩
    · intro h4; omega
  · intro h5
    refine zw_5 zr_140_6 rfl ?_
    refine zw_6 zr_140_7 rfl ?_
    refine zw_39_2 zr_140_9 zr_140_10 ?_ ?_
    · intro h6
      refine zw_push zr_140_17 ?_
      refine zw_R zr_140_18 (by decide) zm_140 (v := (0, 0)) (zRetB (by omega)) ?_
      rw [← hQ2]
      show zW E (d - 1) 143 13 [(2, 69), (0, a0)] [(0, 0)] m0 Q1
      refine zw_R zr_143_13 (by decide) zm_143 (v := (0, 0)) (zRetB (by omega)) ?_
      rw [← hQ1]
      show zW E (d) 186 5 [(2, 69), (0, a0), (0, a1), (0, a2)] [(0, 0)] m0 Q
      refine zw_40_1 zr_186_5 ?_ ?_
      · intro h7
        refine zw_push zr_186_31 ?_
        refine zw_R zr_186_33 (by decide) zm_186 (v := (0, (-100000))) rfl ?_
        rw [← hQ]; exact ⟨_, rfl, by omega, by omega, hI0, hF0⟩
      · intro h8; omega
    · intro h9
      refine zw_push zr_140_13 ?_
      refine zw_42 zr_140_14 ?_
      refine zw_R zr_140_18 (by decide) zm_140 (v := (0, 1)) (zRetB (by omega)) ?_
      rw [← hQ2]
      show zW E (d - 1) 143 13 [(2, 69), (0, a0)] [(0, 1)] m0 Q1
      refine zw_R zr_143_13 (by decide) zm_143 (v := (0, 1)) (zRetB (by omega)) ?_
      rw [← hQ1]
      show zW E (d) 186 5 [(2, 69), (0, a0), (0, a1), (0, a2)] [(0, 1)] m0 Q
      refine zw_40_1 zr_186_5 ?_ ?_
      · intro h10; omega
      · intro h11
        refine zw_7 zr_186_8 rfl ?_
        refine zw_3 zr_186_9 rfl ?_
        refine zw_C zr_186_10 (Or.inl rfl) zm_143 rfl rfl ⟨Nat.le_of_ble_eq_true rfl, Nat.le_of_ble_eq_true rfl, Nat.le_of_ble_eq_true rfl, rfl, by decide⟩ (by omega) (P := (fun v m' => zW E (d) 186 13 [(2, 69), (0, a0), (0, a1), (0, a2)] (if v.1 = 9 then [] else v :: []) m' Q)) ?_ (fun _ _ h => h)
        generalize hQ1 : (fun v m' => zW E (d) 186 13 [(2, 69), (0, a0), (0, a1), (0, a2)] (if v.1 = 9 then [] else v :: []) m' Q) = Q1
        show zW E (d - 1) 143 0 [(2, 69), (0, a1)] [] m0 Q1
        refine zw_3 zr_143_0 rfl ?_
        refine zw_36 zr_143_1 ?_
        refine zw_push zr_143_2 ?_
        refine zw_7 zr_143_3 rfl ?_
        refine zw_C zr_143_4 (Or.inl rfl) zm_141 rfl rfl ⟨Nat.le_of_ble_eq_true rfl, Nat.le_of_ble_eq_true rfl, Nat.le_of_ble_eq_true rfl, rfl, by decide⟩ (by omega) (P := (fun v m' => zW E (d - 1) 143 7 [(2, 69), (0, a1)] (if v.1 = 9 then [(1, 0), (1, a1)] else v :: [(1, 0), (1, a1)]) m' Q1)) ?_ (fun _ _ h => h)
        generalize hQ2 : (fun v m' => zW E (d - 1) 143 7 [(2, 69), (0, a1)] (if v.1 = 9 then [(1, 0), (1, a1)] else v :: [(1, 0), (1, a1)]) m' Q1) = Q2
        show zW E (d - 1 - 1) 141 0 [(2, 69)] [] m0 Q2
        refine zw_7 zr_141_0 rfl ?_
        refine zw_46r (s := 70) zr_141_1 rfl rfl rfl rfl ?_
        refine zw_push zr_141_4 ?_
        refine zw_48k (c := 70) (len := 826) zr_141_7 rfl rfl (by omega) (by omega) (show (822 : Int).toNat = 822 by omega) ef1 ?_
        refine zw_R zr_141_8 (by decide) zm_141 (v := (0, f1)) rfl ?_
        rw [← hQ2]
        show zW E (d - 1) 143 7 [(2, 69), (0, a1)] [(0, f1), (1, 0), (1, a1)] m0 Q1
        refine zw_push zr_143_7 ?_
        refine zw_17 zr_143_8 (by omega) ?_
        refine zw_36 zr_143_9 ?_
        refine zw_C zr_143_10 (Or.inr rfl) zm_140 rfl rfl ⟨Nat.le_of_ble_eq_true rfl, Nat.le_of_ble_eq_true rfl, Nat.le_of_ble_eq_true rfl, rfl, by decide⟩ (by omega) (P := (fun v m' => zW E (d - 1) 143 13 [(2, 69), (0, a1)] (if v.1 = 9 then [] else v :: []) m' Q1)) ?_ (fun _ _ h => h)
        generalize hQ2 : (fun v m' => zW E (d - 1) 143 13 [(2, 69), (0, a1)] (if v.1 = 9 then [] else v :: []) m' Q1) = Q2
        show zW E (d - 1 - 1) 140 0 [(1, a1), (9, 0), (1, 0), (9, 0), (1, (f1 - 1)), (9, 0)] [] m0 Q2
        refine zw_5 zr_140_0 rfl ?_
        refine zw_5 zr_140_1 rfl ?_
        refine zw_39_0 zr_140_2 zr_140_3 ?_ ?_
        · intro h12
          refine zw_push zr_140_17 ?_
          refine zw_R zr_140_18 (by decide) zm_140 (v := (0, 0)) (zRetB (by omega)) ?_
          rw [← hQ2]
          show zW E (d - 1) 143 13 [(2, 69), (0, a1)] [(0, 0)] m0 Q1
          refine zw_R zr_143_13 (by decide) zm_143 (v := (0, 0)) (zRetB (by omega)) ?_
          rw [← hQ1]
          show zW E (d) 186 13 [(2, 69), (0, a0), (0, a1), (0, a2)] [(0, 0)] m0 Q
          refine zw_40_1 zr_186_13 ?_ ?_
          · intro h13
            refine zw_push zr_186_31 ?_
            refine zw_R zr_186_33 (by decide) zm_186 (v := (0, (-100000))) rfl ?_
            rw [← hQ]; exact ⟨_, rfl, by omega, by omega, hI0, hF0⟩
          · intro h14; omega
        · intro h15
          refine zw_5 zr_140_6 rfl ?_
          refine zw_6 zr_140_7 rfl ?_
          refine zw_39_2 zr_140_9 zr_140_10 ?_ ?_
          · intro h16
            refine zw_push zr_140_17 ?_
            refine zw_R zr_140_18 (by decide) zm_140 (v := (0, 0)) (zRetB (by omega)) ?_
            rw [← hQ2]
            show zW E (d - 1) 143 13 [(2, 69), (0, a1)] [(0, 0)] m0 Q1
            refine zw_R zr_143_13 (by decide) zm_143 (v := (0, 0)) (zRetB (by omega)) ?_
            rw [← hQ1]
            show zW E (d) 186 13 [(2, 69), (0, a0), (0, a1), (0, a2)] [(0, 0)] m0 Q
            refine zw_40_1 zr_186_13 ?_ ?_
            · intro h17
              refine zw_push zr_186_31 ?_
              refine zw_R zr_186_33 (by decide) zm_186 (v := (0, (-100000))) rfl ?_
              rw [← hQ]; exact ⟨_, rfl, by omega, by omega, hI0, hF0⟩
            · intro h18; omega
          · intro h19
            refine zw_push zr_140_13 ?_
            refine zw_42 zr_140_14 ?_
            refine zw_R zr_140_18 (by decide) zm_140 (v := (0, 1)) (zRetB (by omega)) ?_
            rw [← hQ2]
            show zW E (d - 1) 143 13 [(2, 69), (0, a1)] [(0, 1)] m0 Q1
            refine zw_R zr_143_13 (by decide) zm_143 (v := (0, 1)) (zRetB (by omega)) ?_
            rw [← hQ1]
            show zW E (d) 186 13 [(2, 69), (0, a0), (0, a1), (0, a2)] [(0, 1)] m0 Q
            refine zw_40_1 zr_186_13 ?_ ?_
            · intro h20; omega
            · intro h21
              refine zw_3 zr_186_16 rfl ?_
              refine zw_3 zr_186_17 rfl ?_
              refine zw_41_1 zr_186_18 ?_ ?_
              · intro h22
                refine zw_push zr_186_31 ?_
                refine zw_R zr_186_33 (by decide) zm_186 (v := (0, (-100000))) rfl ?_
                rw [← hQ]; exact ⟨_, rfl, by omega, by omega, hI0, hF0⟩
              · intro h23
                refine zw_3 zr_186_21 rfl ?_
                refine zw_36 zr_186_22 ?_
                refine zw_push zr_186_23 ?_
                refine zw_push zr_186_24 ?_
                refine zw_C zr_186_25 (Or.inr rfl) zm_140 rfl rfl ⟨Nat.le_of_ble_eq_true rfl, Nat.le_of_ble_eq_true rfl, Nat.le_of_ble_eq_true rfl, rfl, by decide⟩ (by omega) (P := (fun v m' => zW E (d) 186 28 [(2, 69), (0, a0), (0, a1), (0, a2)] (if v.1 = 9 then [] else v :: []) m' Q)) ?_ (fun _ _ h => h)
                generalize hQ1 : (fun v m' => zW E (d) 186 28 [(2, 69), (0, a0), (0, a1), (0, a2)] (if v.1 = 9 then [] else v :: []) m' Q) = Q1
                show zW E (d - 1) 140 0 [(1, a2), (9, 0), (1, 0), (9, 0), (1, 1), (9, 0)] [] m0 Q1
                refine zw_5 zr_140_0 rfl ?_
                refine zw_5 zr_140_1 rfl ?_
                refine zw_39_0 zr_140_2 zr_140_3 ?_ ?_
                · intro h24
                  refine zw_push zr_140_17 ?_
                  refine zw_R zr_140_18 (by decide) zm_140 (v := (0, 0)) (zRetB (by omega)) ?_
                  rw [← hQ1]
                  show zW E (d) 186 28 [(2, 69), (0, a0), (0, a1), (0, a2)] [(0, 0)] m0 Q
                  refine zw_40_4 zr_186_28 ?_ ?_
                  · intro h25; omega
                  · intro h26
                    refine zw_push zr_186_31 ?_
                    refine zw_R zr_186_33 (by decide) zm_186 (v := (0, (-100000))) rfl ?_
                    rw [← hQ]; exact ⟨_, rfl, by omega, by omega, hI0, hF0⟩
                · intro h27
                  refine zw_5 zr_140_6 rfl ?_
                  refine zw_6 zr_140_7 rfl ?_
                  refine zw_39_2 zr_140_9 zr_140_10 ?_ ?_
                  · intro h28
                    refine zw_push zr_140_17 ?_
                    refine zw_R zr_140_18 (by decide) zm_140 (v := (0, 0)) (zRetB (by omega)) ?_
                    rw [← hQ1]
                    show zW E (d) 186 28 [(2, 69), (0, a0), (0, a1), (0, a2)] [(0, 0)] m0 Q
                    refine zw_40_4 zr_186_28 ?_ ?_
                    · intro h29; omega
                    · intro h30
                      refine zw_push zr_186_31 ?_
                      refine zw_R zr_186_33 (by decide) zm_186 (v := (0, (-100000))) rfl ?_
                      rw [← hQ]; exact ⟨_, rfl, by omega, by omega, hI0, hF0⟩
                  · intro h31
                    refine zw_push zr_140_13 ?_
                    refine zw_42 zr_140_14 ?_
                    refine zw_R zr_140_18 (by decide) zm_140 (v := (0, 1)) (zRetB (by omega)) ?_
                    rw [← hQ1]
                    show zW E (d) 186 28 [(2, 69), (0, a0), (0, a1), (0, a2)] [(0, 1)] m0 Q
                    refine zw_40_4 zr_186_28 ?_ ?_
                    · intro h32
                      refine zw_7 zr_186_34 rfl ?_
                      refine zw_push zr_186_35 ?_
                      refine zw_push zr_186_36 ?_
                      refine zw_push zr_186_37 ?_
                      refine zw_C zr_186_38 (Or.inl rfl) zm_184 rfl rfl ⟨Nat.le_of_ble_eq_true rfl, Nat.le_of_ble_eq_true rfl, Nat.le_of_ble_eq_true rfl, rfl, by decide⟩ (by omega) (th_184 (d := d - 1) (by omega) hI0 (a0 := (-1)) (a1 := (-1)) (a2 := (-1))      (by omega) (by omega) (by omega) ) ?_
                      rintro _ m33 ⟨r34, rfl, hr34a, hr34b, hIm33, gm33⟩
                      have hFm33 : zFr W_186 m0 m33 := hF0.trans gm33 rfl
                      have km33_70_822 : m33 70 822 = f1 := (gm33 70 822 rfl).trans ef1
                      show zW E (d) 186 41 [(2, 69), (0, a0), (0, a1), (0, a2)] [(0, r34)] m33 Q
                      refine zw_40_4 zr_186_41 ?_ ?_
                      · intro h35
                        refine zw_7 zr_186_47 rfl ?_
                        refine zw_46r (s := 80) zr_186_48 rfl rfl rfl rfl ?_
                        refine zw_push zr_186_51 ?_
                        refine zw_3 zr_186_53 rfl ?_
                        refine zw_18 zr_186_54 (by omega) ?_
                        refine zw_3 zr_186_55 rfl ?_
                        refine zw_16 zr_186_56 (by omega) ?_
                        refine zw_48 (c := 80) (len := 100) zr_186_57 rfl rfl (by omega) (by omega) ?_
                        intro x36 ex36
                        have bx36 := hIm33.ra (c := 80) (len := 100) (k := (((10 * a1) + a0)).toNat) rfl (by omega)
                        rw [← ex36] at bx36
                        refine zw_push zr_186_58 ?_
                        refine zw_41_4 zr_186_60 ?_ ?_
                        · intro h37
                          refine zw_3 zr_186_66 rfl ?_
                          refine zw_40_4 zr_186_67 ?_ ?_
                          · intro h38
                            refine zw_7 zr_186_85 rfl ?_
                            refine zw_46r (s := 80) zr_186_86 rfl rfl rfl rfl ?_
                            refine zw_push zr_186_89 ?_
                            refine zw_3 zr_186_91 rfl ?_
                            refine zw_18 zr_186_92 (by omega) ?_
                            refine zw_3 zr_186_93 rfl ?_
                            refine zw_16 zr_186_94 (by omega) ?_
                            refine zw_48k (c := 80) (len := 100) zr_186_95 rfl rfl (by omega) (by omega) rfl ex36.symm ?_
                            refine zw_R zr_186_96 (by decide) zm_186 (v := (0, x36)) rfl ?_
                            rw [← hQ]; exact ⟨_, rfl, by omega, by omega, hIm33, hFm33⟩
                          · intro h39
                            refine zw_7 zr_186_70 rfl ?_
                            refine zw_46r (s := 80) zr_186_71 rfl rfl rfl rfl ?_
                            refine zw_push zr_186_74 ?_
                            refine zw_3 zr_186_76 rfl ?_
                            refine zw_18 zr_186_77 (by omega) ?_
                            refine zw_3 zr_186_78 rfl ?_
                            refine zw_16 zr_186_79 (by omega) ?_
                            refine zw_48 (c := 80) (len := 100) zr_186_80 rfl rfl (by omega) (by omega) ?_
                            intro x40 ex40
                            have bx40 := hIm33.ra (c := 80) (len := 100) (k := (((10 * a0) + a1)).toNat) rfl (by omega)
                            rw [← ex40] at bx40
                            clear ex40
                            refine zw_38h zr_186_81 ?_
                            intro x41 hx41a hx41b
                            refine zw_42 zr_186_82 ?_
                            refine zw_R zr_186_96 (by decide) zm_186 (v := (0, x41)) rfl ?_
                            rw [← hQ]; exact ⟨_, rfl, by omega, by omega, hIm33, hFm33⟩
                        · intro h42
                          refine zw_push zr_186_63 ?_
                          refine zw_R zr_186_65 (by decide) zm_186 (v := (0, (-300000))) rfl ?_
                          rw [← hQ]; exact ⟨_, rfl, by omega, by omega, hIm33, hFm33⟩
                      · intro h43
                        refine zw_push zr_186_44 ?_
                        refine zw_R zr_186_46 (by decide) zm_186 (v := (0, (-200000))) rfl ?_
                        rw [← hQ]; exact ⟨_, rfl, by omega, by omega, hIm33, hFm33⟩
                    · intro h44; omega

abbrev W_86 : List (Nat × Nat) := [(58, 1000), (59, 1000)]
set_option maxHeartbeats 8000000 in
theorem th_86 {E : zE} {d : Nat} {m0 : zM} {a0 : Int} (hd : 5 ≤ d) (hI0 : zInv m0) (ha0 : (-9223372036854775808) ≤ a0 ∧ a0 ≤ 9223372036854775807) : zC E d 86 [(2, 55), (1, a0)] m0 (fun v m' => ∃ r : Int, v = (0, r) ∧ 0 ≤ r ∧ r ≤ 4 ∧ zInv m' ∧ zFr W_86 m0 m') := by
  have hF0 : zFr W_86 m0 m0 := zFr.rfl
  generalize hQ : (fun (v : zV) (m' : zM) => ∃ r : Int, v = (0, r) ∧ 0 ≤ r ∧ r ≤ 4 ∧ zInv m' ∧ zFr W_86 m0 m') = Q
  show zW E d 86 0 [(2, 55), (1, a0), (9, 0), (9, 0), (9, 0), (9, 0), (9, 0), (9, 0)] [] m0 Q
  refine zw_5 zr_86_0 rfl ?_
  refine zw_13 (L' := [(2, 55), (1, a0), (9, 0), (1, a0), (9, 0), (9, 0), (9, 0), (9, 0)]) zr_86_1 (Nat.le_of_ble_eq_true rfl) rfl ?_
  refine zw_push zr_86_2 ?_
  refine zw_10 (L' := [(2, 55), (1, a0), (9, 0), (1, a0), (9, 0), (0, 0), (9, 0), (9, 0)]) zr_86_3 (Nat.le_of_ble_eq_true rfl) rfl ?_
  have lp5_4 : ∀ (nlp5_4 : Nat) (i1 i2 : Int) (m3 : zM), zInv m3 → zFr W_86 m0 m3 → (-9223372036854775808) ≤ i1 → i1 ≤ 9223372036854775807 → 0 ≤ i2 → i2 ≤ 4 → (4 - i2).toNat < nlp5_4 → zW E (d) 86 5 [(2, 55), (1, a0), (9, 0), (1, i1), (9, 0), (0, i2), (9, 0), (9, 0)] [] m3 Q := by
    intro nlp5_4
    induction nlp5_4 with
    | zero =>
      intros
      exact absurd (by assumption : _ < 0) (Nat.not_lt_zero _)
    | succ nlp5_4 ihlp5_4 =>
      intro i1 i2 m3 hIm3 hFm3 li1 ui1 li2 ui2 hmlp5_4
      refine zw_4 zr_86_5 rfl ?_
      refine zw_push zr_86_7 ?_
      refine zw_41_2 zr_86_8 ?_ ?_
      · intro h6
        refine zw_push zr_86_43 ?_
        refine zw_R zr_86_44 (by decide) zm_86 (v := (0, 4)) rfl ?_
        rw [← hQ]; exact ⟨_, rfl, by omega, by omega, hIm3, hFm3⟩
      · intro h7
        refine zw_7 zr_86_11 rfl ?_
        refine zw_5 zr_86_12 rfl ?_
        refine zw_C zr_86_13 (Or.inl rfl) zm_83 rfl rfl ⟨Nat.le_of_ble_eq_true rfl, Nat.le_of_ble_eq_true rfl, Nat.le_of_ble_eq_true rfl, rfl, by decide⟩ (by omega) (th_83 (d := d - 1) (by omega) hIm3 (a0 := i1)      (by omega) ) ?_
        rintro _ m8 ⟨r9, rfl, hr9a, hr9b, hIm8, gm8⟩
        have hFm8 : zFr W_86 m0 m8 := hFm3.trans gm8 rfl
        show zW E (d) 86 16 [(2, 55), (1, a0), (9, 0), (1, i1), (9, 0), (0, i2), (9, 0), (9, 0)] [(1, r9)] m8 Q
        refine zw_14 (L' := [(2, 55), (1, a0), (9, 0), (1, i1), (9, 0), (0, i2), (1, r9), (9, 0)]) zr_86_16 (Nat.le_of_ble_eq_true rfl) rfl ?_
        refine zw_6 zr_86_18 rfl ?_
        refine zw_push zr_86_20 ?_
        refine zw_39_4 zr_86_21 zr_86_22 ?_ ?_
        · intro h10
          refine zw_5 zr_86_28 rfl ?_
          refine zw_6 zr_86_29 rfl ?_
          refine zw_push zr_86_31 ?_
          refine zw_32h zr_86_34 ?_
          intro x11 hx11a hx11b
          refine zw_30h zr_86_35 ?_
          intro x12 hx12a hx12b
          refine zw_13 (L' := [(2, 55), (1, a0), (9, 0), (1, x12), (9, 0), (0, i2), (1, r9), (9, 0)]) zr_86_36 (Nat.le_of_ble_eq_true rfl) rfl ?_
          refine zw_15 (c := 1) (L' := [(2, 55), (1, a0), (9, 0), (1, x12), (9, 0), (0, (i2 + 1)), (1, r9), (9, 0)]) zr_86_37 rfl (by decide) (by omega) rfl ?_
          refine zw_42 zr_86_40 ?_
          exact zw_less (L := [(2, 55), (1, a0), (9, 0), (1, x12), (9, 0), (0, (i2 + 1)), (9, 0), (9, 0)]) ⟨Or.inr rfl, Or.inr rfl, Or.inl rfl, Or.inr rfl, Or.inl rfl, Or.inr rfl, Or.inl rfl, Or.inl rfl, trivial⟩ (ihlp5_4 (x12) ((i2 + 1)) m8 hIm8 hFm8   (by omega) (by omega) (by omega) (by omega)  (by omega))
        · intro h13
          refine zw_4 zr_86_25 rfl ?_
          refine zw_R zr_86_27 (by decide) zm_86 (v := (0, i2)) rfl ?_
          rw [← hQ]; exact ⟨_, rfl, by omega, by omega, hIm8, hFm8⟩
  exact lp5_4 _ (a0) (0) m0 hI0 hF0   (by omega) (by omega) (by omega) (by omega)  (Nat.lt_succ_self _)

abbrev W_87 : List (Nat × Nat) := [(55, 5), (58, 1000), (59, 1000)]
def rs_87 (E : zE) (d : Nat) : Prop := ∀ (m0 : zM) (a0 : Int) (a1 : Int) (a2 : Int) (a3 : Int), a3.toNat + 6 ≤ d → zInv m0 → ((-9223372036854775808) ≤ a0 ∧ a0 ≤ 9223372036854775807) → ((-9223372036854775808) ≤ a1 ∧ a1 ≤ 9223372036854775807) → ((-9223372036854775808) ≤ a2 ∧ a2 ≤ 9223372036854775807) → (0 ≤ a3 ∧ a3 ≤ 3) → zC E d 87 [(2, 55), (1, a0), (1, a1), (1, a2), (0, a3)] m0 (fun v m' => v = (9, 0) ∧ zInv m' ∧ zFr W_87 m0 m')
set_option maxHeartbeats 8000000 in
theorem tr_87 {E : zE} {d : Nat} (ih87 : rs_87 E (d - 1)) : rs_87 E d := by
  intro m0 a0 a1 a2 a3 hd hI0 ha0 ha1 ha2 ha3
  have hF0 : zFr W_87 m0 m0 := zFr.rfl
  generalize hQ : (fun (v : zV) (m' : zM) => v = (9, 0) ∧ zInv m' ∧ zFr W_87 m0 m') = Q
  show zW E d 87 0 [(2, 55), (1, a0), (9, 0), (1, a1), (9, 0), (1, a2), (9, 0), (0, a3), (9, 0), (9, 0), (9, 0), (9, 0), (9, 0), (9, 0), (9, 0)] [] m0 Q
  refine zw_7 zr_87_0 rfl ?_
  obtain ⟨f1, ef1⟩ : ∃ v, m0 55 5 = v := ⟨_, rfl⟩
  have bf1 := hI0.fl (c := 55) (k := 5) rfl
  rw [ef1] at bf1
  refine zw_46l zr_87_1 ef1 rfl rfl rfl ?_
  refine zw_push zr_87_4 ?_
  refine zw_39_1 zr_87_7 zr_87_8 ?_ ?_
  · intro h2
    refine zw_7 zr_87_21 rfl ?_
    refine zw_5 zr_87_22 rfl ?_
    refine zw_5 zr_87_23 rfl ?_
    refine zw_push zr_87_24 ?_
    refine zw_32h zr_87_27 ?_
    intro x3 hx3a hx3b
    refine zw_30h zr_87_28 ?_
    intro x4 hx4a hx4b
    refine zw_C zr_87_29 (Or.inl rfl) zm_83 rfl rfl ⟨Nat.le_of_ble_eq_true rfl, Nat.le_of_ble_eq_true rfl, Nat.le_of_ble_eq_true rfl, rfl, by decide⟩ (by omega) (th_83 (d := d - 1) (by omega) hI0 (a0 := x4)      (by omega) ) ?_
    rintro _ m5 ⟨r6, rfl, hr6a, hr6b, hIm5, gm5⟩
    have hFm5 : zFr W_87 m0 m5 := hF0.trans gm5 rfl
    have km5_55_5 : m5 55 5 = f1 := (gm5 55 5 rfl).trans ef1
    show zW E (d) 87 32 [(2, 55), (1, a0), (9, 0), (1, a1), (9, 0), (1, a2), (9, 0), (0, a3), (9, 0), (9, 0), (9, 0), (9, 0), (9, 0), (9, 0), (9, 0)] [(1, r6)] m5 Q
    refine zw_14 (L' := [(2, 55), (1, a0), (9, 0), (1, a1), (9, 0), (1, a2), (9, 0), (0, a3), (1, r6), (9, 0), (9, 0), (9, 0), (9, 0), (9, 0), (9, 0)]) zr_87_32 (Nat.le_of_ble_eq_true rfl) rfl ?_
    refine zw_6 zr_87_34 rfl ?_
    refine zw_push zr_87_36 ?_
    refine zw_39_4 zr_87_37 zr_87_38 ?_ ?_
    · intro h7
      refine zw_4 zr_87_47 rfl ?_
      refine zw_40_2 zr_87_49 ?_ ?_
      · intro h8
        refine zw_6 zr_87_53 rfl ?_
        refine zw_14 (L' := [(2, 55), (1, a0), (9, 0), (1, a1), (9, 0), (1, a2), (9, 0), (0, a3), (1, r6), (9, 0), (1, a2), (9, 0), (9, 0), (9, 0), (9, 0)]) zr_87_55 (Nat.le_of_ble_eq_true rfl) rfl ?_
        refine zw_push zr_87_57 ?_
        refine zw_10 (L' := [(2, 55), (1, a0), (9, 0), (1, a1), (9, 0), (1, a2), (9, 0), (0, a3), (1, r6), (9, 0), (1, a2), (9, 0), (0, 0), (9, 0), (9, 0)]) zr_87_58 (Nat.le_of_ble_eq_true rfl) rfl ?_
        have lp60_12 : ∀ (nlp60_12 : Nat) (i9 i10 : Int) (m11 : zM), zInv m11 → zFr W_87 m0 m11 → (-9223372036854775808) ≤ i9 → i9 ≤ 9223372036854775807 → 0 ≤ i10 → i10 ≤ 60 → (60 - i10).toNat < nlp60_12 → zW E (d) 87 60 [(2, 55), (1, a0), (9, 0), (1, a1), (9, 0), (1, a2), (9, 0), (0, a3), (1, r6), (9, 0), (1, i9), (9, 0), (0, i10), (9, 0), (9, 0)] [] m11 Q := by
          intro nlp60_12
          induction nlp60_12 with
          | zero =>
            intros
            exact absurd (by assumption : _ < 0) (Nat.not_lt_zero _)
          | succ nlp60_12 ihlp60_12 =>
            intro i9 i10 m11 hIm11 hFm11 li9 ui9 li10 ui10 hmlp60_12
            refine zw_4 zr_87_60 rfl ?_
            refine zw_7 zr_87_62 rfl ?_
            refine zw_46r (s := 1) zr_87_63 rfl rfl rfl rfl ?_
            obtain ⟨f14, ef14⟩ : ∃ v, m11 1 1 = v := ⟨_, rfl⟩
            have bf14 := ib_1_1 hIm11
            rw [ef14] at bf14
            refine zw_46i zr_87_66 ef14 rfl rfl rfl ?_
            refine zw_41_3 zr_87_69 ?_ ?_
            · intro h15
              refine zw_R zr_87_123 (by decide) zm_87 (v := (9, 0)) rfl ?_
              rw [← hQ]; exact ⟨rfl, hIm11, hFm11⟩
            · intro h16
              refine zw_push zr_87_72 ?_
              refine zw_4 zr_87_73 rfl ?_
              refine zw_33p zr_87_75 (by omega) ?_
              intro x17 ex17 hx17a hx17b
              refine zw_14 (L' := [(2, 55), (1, a0), (9, 0), (1, a1), (9, 0), (1, a2), (9, 0), (0, a3), (1, r6), (9, 0), (1, i9), (9, 0), (0, i10), (1, x17), (9, 0)]) zr_87_76 (Nat.le_of_ble_eq_true rfl) rfl ?_
              refine zw_6 zr_87_78 rfl ?_
              refine zw_6 zr_87_80 rfl ?_
              refine zw_push zr_87_82 ?_
              refine zw_32h zr_87_85 ?_
              intro x18 hx18a hx18b
              refine zw_30h zr_87_86 ?_
              intro x19 hx19a hx19b
              refine zw_6 zr_87_87 rfl ?_
              refine zw_30h zr_87_89 ?_
              intro x20 hx20a hx20b
              refine zw_push zr_87_90 ?_
              refine zw_39_1 zr_87_91 zr_87_92 ?_ ?_
              · intro h21
                refine zw_15 (c := 1) (L' := [(2, 55), (1, a0), (9, 0), (1, a1), (9, 0), (1, a2), (9, 0), (0, a3), (1, r6), (9, 0), (1, i9), (9, 0), (0, (i10 + 1)), (1, x17), (9, 0)]) zr_87_117 rfl (by decide) (by omega) rfl ?_
                refine zw_42 zr_87_120 ?_
                exact zw_less (L := [(2, 55), (1, a0), (9, 0), (1, a1), (9, 0), (1, a2), (9, 0), (0, a3), (1, r6), (9, 0), (1, i9), (9, 0), (0, (i10 + 1)), (9, 0), (9, 0)]) ⟨Or.inr rfl, Or.inr rfl, Or.inl rfl, Or.inr rfl, Or.inl rfl, Or.inr rfl, Or.inl rfl, Or.inr rfl, Or.inr rfl, Or.inl rfl, Or.inr rfl, Or.inl rfl, Or.inr rfl, Or.inl rfl, Or.inl rfl, trivial⟩ (ihlp60_12 (i9) ((i10 + 1)) m11 hIm11 hFm11   (by omega) (by omega) (by omega) (by omega)  (by omega))
              · intro h22
                refine zw_7 zr_87_95 rfl ?_
                refine zw_5 zr_87_96 rfl ?_
                refine zw_5 zr_87_97 rfl ?_
                refine zw_6 zr_87_98 rfl ?_
                refine zw_31h zr_87_100 ?_
                intro x23 hx23a hx23b
                refine zw_6 zr_87_101 rfl ?_
                refine zw_4 zr_87_103 rfl ?_
                refine zw_push zr_87_105 ?_
                refine zw_17 zr_87_106 (by omega) ?_
                refine zw_C zr_87_107 (Or.inl rfl) zm_87 rfl rfl ⟨Nat.le_of_ble_eq_true rfl, Nat.le_of_ble_eq_true rfl, Nat.le_of_ble_eq_true rfl, rfl, by decide⟩ (by omega) (ih87 m11 (a0) (x23) (i9) ((a3 - 1)) (by omega) hIm11   (by omega) (by omega) (by omega) (by omega) ) ?_
                rintro _ m24 ⟨rfl, hIm24, gm24⟩
                have hFm24 : zFr W_87 m0 m24 := hFm11.trans gm24 rfl
                have km24_1_1 : m24 1 1 = f14 := (gm24 1 1 rfl).trans ef14
                show zW E (d) 87 110 [(2, 55), (1, a0), (9, 0), (1, a1), (9, 0), (1, a2), (9, 0), (0, a3), (1, r6), (9, 0), (1, i9), (9, 0), (0, i10), (1, x17), (9, 0)] [] m24 Q
                refine zw_6 zr_87_110 rfl ?_
                refine zw_6 zr_87_112 rfl ?_
                refine zw_31h zr_87_114 ?_
                intro x25 hx25a hx25b
                refine zw_14 (L' := [(2, 55), (1, a0), (9, 0), (1, a1), (9, 0), (1, a2), (9, 0), (0, a3), (1, r6), (9, 0), (1, x25), (9, 0), (0, i10), (1, x17), (9, 0)]) zr_87_115 (Nat.le_of_ble_eq_true rfl) rfl ?_
                refine zw_15 (c := 1) (L' := [(2, 55), (1, a0), (9, 0), (1, a1), (9, 0), (1, a2), (9, 0), (0, a3), (1, r6), (9, 0), (1, x25), (9, 0), (0, (i10 + 1)), (1, x17), (9, 0)]) zr_87_117 rfl (by decide) (by omega) rfl ?_
                refine zw_42 zr_87_120 ?_
                exact zw_less (L := [(2, 55), (1, a0), (9, 0), (1, a1), (9, 0), (1, a2), (9, 0), (0, a3), (1, r6), (9, 0), (1, x25), (9, 0), (0, (i10 + 1)), (9, 0), (9, 0)]) ⟨Or.inr rfl, Or.inr rfl, Or.inl rfl, Or.inr rfl, Or.inl rfl, Or.inr rfl, Or.inl rfl, Or.inr rfl, Or.inr rfl, Or.inl rfl, Or.inr rfl, Or.inl rfl, Or.inr rfl, Or.inl rfl, Or.inl rfl, trivial⟩ (ihlp60_12 (x25) ((i10 + 1)) m24 hIm24 hFm24   (by omega) (by omega) (by omega) (by omega)  (by omega))
        exact lp60_12 _ (a2) (0) m5 hIm5 hFm5   (by omega) (by omega) (by omega) (by omega)  (Nat.lt_succ_self _)
      · intro h26
        refine zw_R zr_87_52 (by decide) zm_87 (v := (9, 0)) rfl ?_
        rw [← hQ]; exact ⟨rfl, hIm5, hFm5⟩
    · intro h27
      refine zw_7 zr_87_41 rfl ?_
      refine zw_5 zr_87_42 rfl ?_
      refine zw_47 (c := 55) zr_87_43 rfl ⟨rfl, by decide, rfl⟩ ?_
      intro m28 em28
      have hIm28 : zInv m28 := by rw [em28]; exact hIm5.anyl (by omega) (by decide) rfl (by decide) (by decide)
      have hFm28 : zFr W_87 m0 m28 := by rw [em28]; exact hFm5.up rfl
      have km28_55_5 : m28 55 5 = a1 := by rw [em28]; exact zUp_eq _ _ _ _
      clear em28
      refine zw_R zr_87_46 (by decide) zm_87 (v := (9, 0)) rfl ?_
      rw [← hQ]; exact ⟨rfl, hIm28, hFm28⟩
  · intro h29
    refine zw_5 zr_87_11 rfl ?_
    refine zw_7 zr_87_12 rfl ?_
    refine zw_46l zr_87_13 ef1 rfl rfl rfl ?_
    refine zw_39_0 zr_87_16 zr_87_17 ?_ ?_
    · intro h30
      refine zw_7 zr_87_21 rfl ?_
      refine zw_5 zr_87_22 rfl ?_
      refine zw_5 zr_87_23 rfl ?_
      refine zw_push zr_87_24 ?_
      refine zw_32h zr_87_27 ?_
      intro x31 hx31a hx31b
      refine zw_30h zr_87_28 ?_
      intro x32 hx32a hx32b
      refine zw_C zr_87_29 (Or.inl rfl) zm_83 rfl rfl ⟨Nat.le_of_ble_eq_true rfl, Nat.le_of_ble_eq_true rfl, Nat.le_of_ble_eq_true rfl, rfl, by decide⟩ (by omega) (th_83 (d := d - 1) (by omega) hI0 (a0 := x32)      (by omega) ) ?_
      rintro _ m33 ⟨r34, rfl, hr34a, hr34b, hIm33, gm33⟩
      have hFm33 : zFr W_87 m0 m33 := hF0.trans gm33 rfl
      have km33_55_5 : m33 55 5 = f1 := (gm33 55 5 rfl).trans ef1
      show zW E (d) 87 32 [(2, 55), (1, a0), (9, 0), (1, a1), (9, 0), (1, a2), (9, 0), (0, a3), (9, 0), (9, 0), (9, 0), (9, 0), (9, 0), (9, 0), (9, 0)] [(1, r34)] m33 Q
      refine zw_14 (L' := [(2, 55), (1, a0), (9, 0), (1, a1), (9, 0), (1, a2), (9, 0), (0, a3), (1, r34), (9, 0), (9, 0), (9, 0), (9, 0), (9, 0), (9, 0)]) zr_87_32 (Nat.le_of_ble_eq_true rfl) rfl ?_
      refine zw_6 zr_87_34 rfl ?_
      refine zw_push zr_87_36 ?_
      refine zw_39_4 zr_87_37 zr_87_38 ?_ ?_
      · intro h35
        refine zw_4 zr_87_47 rfl ?_
        refine zw_40_2 zr_87_49 ?_ ?_
        · intro h36
          refine zw_6 zr_87_53 rfl ?_
          refine zw_14 (L' := [(2, 55), (1, a0), (9, 0), (1, a1), (9, 0), (1, a2), (9, 0), (0, a3), (1, r34), (9, 0), (1, a2), (9, 0), (9, 0), (9, 0), (9, 0)]) zr_87_55 (Nat.le_of_ble_eq_true rfl) rfl ?_
          refine zw_push zr_87_57 ?_
          refine zw_10 (L' := [(2, 55), (1, a0), (9, 0), (1, a1), (9, 0), (1, a2), (9, 0), (0, a3), (1, r34), (9, 0), (1, a2), (9, 0), (0, 0), (9, 0), (9, 0)]) zr_87_58 (Nat.le_of_ble_eq_true rfl) rfl ?_
          have lp60_40 : ∀ (nlp60_40 : Nat) (i37 i38 : Int) (m39 : zM), zInv m39 → zFr W_87 m0 m39 → (-9223372036854775808) ≤ i37 → i37 ≤ 9223372036854775807 → 0 ≤ i38 → i38 ≤ 60 → (60 - i38).toNat < nlp60_40 → zW E (d) 87 60 [(2, 55), (1, a0), (9, 0), (1, a1), (9, 0), (1, a2), (9, 0), (0, a3), (1, r34), (9, 0), (1, i37), (9, 0), (0, i38), (9, 0), (9, 0)] [] m39 Q := by
            intro nlp60_40
            induction nlp60_40 with
            | zero =>
              intros
              exact absurd (by assumption : _ < 0) (Nat.not_lt_zero _)
            | succ nlp60_40 ihlp60_40 =>
              intro i37 i38 m39 hIm39 hFm39 li37 ui37 li38 ui38 hmlp60_40
              refine zw_4 zr_87_60 rfl ?_
              refine zw_7 zr_87_62 rfl ?_
              refine zw_46r (s := 1) zr_87_63 rfl rfl rfl rfl ?_
              obtain ⟨f42, ef42⟩ : ∃ v, m39 1 1 = v := ⟨_, rfl⟩
              have bf42 := ib_1_1 hIm39
              rw [ef42] at bf42
              refine zw_46i zr_87_66 ef42 rfl rfl rfl ?_
              refine zw_41_3 zr_87_69 ?_ ?_
              · intro h43
                refine zw_R zr_87_123 (by decide) zm_87 (v := (9, 0)) rfl ?_
                rw [← hQ]; exact ⟨rfl, hIm39, hFm39⟩
              · intro h44
                refine zw_push zr_87_72 ?_
                refine zw_4 zr_87_73 rfl ?_
                refine zw_33p zr_87_75 (by omega) ?_
                intro x45 ex45 hx45a hx45b
                refine zw_14 (L' := [(2, 55), (1, a0), (9, 0), (1, a1), (9, 0), (1, a2), (9, 0), (0, a3), (1, r34), (9, 0), (1, i37), (9, 0), (0, i38), (1, x45), (9, 0)]) zr_87_76 (Nat.le_of_ble_eq_true rfl) rfl ?_
                refine zw_6 zr_87_78 rfl ?_
                refine zw_6 zr_87_80 rfl ?_
                refine zw_push zr_87_82 ?_
                refine zw_32h zr_87_85 ?_
                intro x46 hx46a hx46b
                refine zw_30h zr_87_86 ?_
                intro x47 hx47a hx47b
                refine zw_6 zr_87_87 rfl ?_
                refine zw_30h zr_87_89 ?_
                intro x48 hx48a hx48b
                refine zw_push zr_87_90 ?_
                refine zw_39_1 zr_87_91 zr_87_92 ?_ ?_
                · intro h49
                  refine zw_15 (c := 1) (L' := [(2, 55), (1, a0), (9, 0), (1, a1), (9, 0), (1, a2), (9, 0), (0, a3), (1, r34), (9, 0), (1, i37), (9, 0), (0, (i38 + 1)), (1, x45), (9, 0)]) zr_87_117 rfl (by decide) (by omega) rfl ?_
                  refine zw_42 zr_87_120 ?_
                  exact zw_less (L := [(2, 55), (1, a0), (9, 0), (1, a1), (9, 0), (1, a2), (9, 0), (0, a3), (1, r34), (9, 0), (1, i37), (9, 0), (0, (i38 + 1)), (9, 0), (9, 0)]) ⟨Or.inr rfl, Or.inr rfl, Or.inl rfl, Or.inr rfl, Or.inl rfl, Or.inr rfl, Or.inl rfl, Or.inr rfl, Or.inr rfl, Or.inl rfl, Or.inr rfl, Or.inl rfl, Or.inr rfl, Or.inl rfl, Or.inl rfl, trivial⟩ (ihlp60_40 (i37) ((i38 + 1)) m39 hIm39 hFm39   (by omega) (by omega) (by omega) (by omega)  (by omega))
                · intro h50
                  refine zw_7 zr_87_95 rfl ?_
                  refine zw_5 zr_87_96 rfl ?_
                  refine zw_5 zr_87_97 rfl ?_
                  refine zw_6 zr_87_98 rfl ?_
                  refine zw_31h zr_87_100 ?_
                  intro x51 hx51a hx51b
                  refine zw_6 zr_87_101 rfl ?_
                  refine zw_4 zr_87_103 rfl ?_
                  refine zw_push zr_87_105 ?_
                  refine zw_17 zr_87_106 (by omega) ?_
                  refine zw_C zr_87_107 (Or.inl rfl) zm_87 rfl rfl ⟨Nat.le_of_ble_eq_true rfl, Nat.le_of_ble_eq_true rfl, Nat.le_of_ble_eq_true rfl, rfl, by decide⟩ (by omega) (ih87 m39 (a0) (x51) (i37) ((a3 - 1)) (by omega) hIm39   (by omega) (by omega) (by omega) (by omega) ) ?_
                  rintro _ m52 ⟨rfl, hIm52, gm52⟩
                  have hFm52 : zFr W_87 m0 m52 := hFm39.trans gm52 rfl
                  have km52_1_1 : m52 1 1 = f42 := (gm52 1 1 rfl).trans ef42
                  show zW E (d) 87 110 [(2, 55), (1, a0), (9, 0), (1, a1), (9, 0), (1, a2), (9, 0), (0, a3), (1, r34), (9, 0), (1, i37), (9, 0), (0, i38), (1, x45), (9, 0)] [] m52 Q
                  refine zw_6 zr_87_110 rfl ?_
                  refine zw_6 zr_87_112 rfl ?_
                  refine zw_31h zr_87_114 ?_
                  intro x53 hx53a hx53b
                  refine zw_14 (L' := [(2, 55), (1, a0), (9, 0), (1, a1), (9, 0), (1, a2), (9, 0), (0, a3), (1, r34), (9, 0), (1, x53), (9, 0), (0, i38), (1, x45), (9, 0)]) zr_87_115 (Nat.le_of_ble_eq_true rfl) rfl ?_
                  refine zw_15 (c := 1) (L' := [(2, 55), (1, a0), (9, 0), (1, a1), (9, 0), (1, a2), (9, 0), (0, a3), (1, r34), (9, 0), (1, x53), (9, 0), (0, (i38 + 1)), (1, x45), (9, 0)]) zr_87_117 rfl (by decide) (by omega) rfl ?_
                  refine zw_42 zr_87_120 ?_
                  exact zw_less (L := [(2, 55), (1, a0), (9, 0), (1, a1), (9, 0), (1, a2), (9, 0), (0, a3), (1, r34), (9, 0), (1, x53), (9, 0), (0, (i38 + 1)), (9, 0), (9, 0)]) ⟨Or.inr rfl, Or.inr rfl, Or.inl rfl, Or.inr rfl, Or.inl rfl, Or.inr rfl, Or.inl rfl, Or.inr rfl, Or.inr rfl, Or.inl rfl, Or.inr rfl, Or.inl rfl, Or.inr rfl, Or.inl rfl, Or.inl rfl, trivial⟩ (ihlp60_40 (x53) ((i38 + 1)) m52 hIm52 hFm52   (by omega) (by omega) (by omega) (by omega)  (by omega))
          exact lp60_40 _ (a2) (0) m33 hIm33 hFm33   (by omega) (by omega) (by omega) (by omega)  (Nat.lt_succ_self _)
        · intro h54
          refine zw_R zr_87_52 (by decide) zm_87 (v := (9, 0)) rfl ?_
          rw [← hQ]; exact ⟨rfl, hIm33, hFm33⟩
      · intro h55
        refine zw_7 zr_87_41 rfl ?_
        refine zw_5 zr_87_42 rfl ?_
        refine zw_47 (c := 55) zr_87_43 rfl ⟨rfl, by decide, rfl⟩ ?_
        intro m56 em56
        have hIm56 : zInv m56 := by rw [em56]; exact hIm33.anyl (by omega) (by decide) rfl (by decide) (by decide)
        have hFm56 : zFr W_87 m0 m56 := by rw [em56]; exact hFm33.up rfl
        have km56_55_5 : m56 55 5 = a1 := by rw [em56]; exact zUp_eq _ _ _ _
        clear em56
        refine zw_R zr_87_46 (by decide) zm_87 (v := (9, 0)) rfl ?_
        rw [← hQ]; exact ⟨rfl, hIm56, hFm56⟩
    · intro h57
      refine zw_R zr_87_20 (by decide) zm_87 (v := (9, 0)) rfl ?_
      rw [← hQ]; exact ⟨rfl, hI0, hF0⟩
theorem gr_87 (E : zE) : ∀ d, rs_87 E d := by
  intro d
  induction d with
  | zero => exact (by intro m0 a0 a1 a2 a3 hd; exfalso; omega)
  | succ d ih => exact tr_87 (d := d + 1) ih
theorem th_87 {E : zE} {d : Nat} {m0 : zM} {a0 : Int} {a1 : Int} {a2 : Int} {a3 : Int} (hd : a3.toNat + 6 ≤ d) (hI0 : zInv m0) (ha0 : (-9223372036854775808) ≤ a0 ∧ a0 ≤ 9223372036854775807) (ha1 : (-9223372036854775808) ≤ a1 ∧ a1 ≤ 9223372036854775807) (ha2 : (-9223372036854775808) ≤ a2 ∧ a2 ≤ 9223372036854775807) (ha3 : 0 ≤ a3 ∧ a3 ≤ 3) : zC E d 87 [(2, 55), (1, a0), (1, a1), (1, a2), (0, a3)] m0 (fun v m' => v = (9, 0) ∧ zInv m' ∧ zFr W_87 m0 m') := (gr_87 E d) m0 a0 a1 a2 a3 hd hI0 ha0 ha1 ha2 ha3

abbrev W_88 : List (Nat × Nat) := [(55, 5), (56, 1000), (57, 1000), (58, 1000), (59, 1000)]
set_option maxHeartbeats 8000000 in
theorem th_88 {E : zE} {d : Nat} {m0 : zM} (hd : 10 ≤ d) (hI0 : zInv m0) : zC E d 88 [(2, 55)] m0 (fun v m' => ∃ r : Int, v = (1, r) ∧ (-9223372036854775808) ≤ r ∧ r ≤ 9223372036854775807 ∧ zInv m' ∧ zFr W_88 m0 m') := by
  have hF0 : zFr W_88 m0 m0 := zFr.rfl
  generalize hQ : (fun (v : zV) (m' : zM) => ∃ r : Int, v = (1, r) ∧ (-9223372036854775808) ≤ r ∧ r ≤ 9223372036854775807 ∧ zInv m' ∧ zFr W_88 m0 m') = Q
  show zW E d 88 0 [(2, 55), (9, 0), (9, 0), (9, 0)] [] m0 Q
  refine zw_7 zr_88_0 rfl ?_
  refine zw_C zr_88_1 (Or.inl rfl) zm_78 rfl rfl ⟨Nat.le_of_ble_eq_true rfl, Nat.le_of_ble_eq_true rfl, Nat.le_of_ble_eq_true rfl, rfl, by decide⟩ (by omega) (th_78 (d := d - 1) (by omega) hI0        ) ?_
  rintro _ m1 ⟨rfl, hIm1, gm1⟩
  have hFm1 : zFr W_88 m0 m1 := hF0.trans gm1 rfl
  show zW E (d) 88 4 [(2, 55), (9, 0), (9, 0), (9, 0)] [] m1 Q
  refine zw_7 zr_88_4 rfl ?_
  refine zw_46r (s := 1) zr_88_5 rfl rfl rfl rfl ?_
  refine zw_C zr_88_8 (Or.inl rfl) zm_53 rfl rfl ⟨Nat.le_of_ble_eq_true rfl, Nat.le_of_ble_eq_true rfl, Nat.le_of_ble_eq_true rfl, rfl, by decide⟩ (by omega) (th_53 (d := d - 1) (by omega) hIm1        ) ?_
  rintro _ _ ⟨r2, rfl, hr2a, hr2b, rfl⟩
  show zW E (d) 88 11 [(2, 55), (9, 0), (9, 0), (9, 0)] [(1, r2)] m1 Q
  refine zw_13 (L' := [(2, 55), (1, r2), (9, 0), (9, 0)]) zr_88_11 (Nat.le_of_ble_eq_true rfl) rfl ?_
  refine zw_7 zr_88_12 rfl ?_
  refine zw_5 zr_88_13 rfl ?_
  refine zw_C zr_88_14 (Or.inl rfl) zm_86 rfl rfl ⟨Nat.le_of_ble_eq_true rfl, Nat.le_of_ble_eq_true rfl, Nat.le_of_ble_eq_true rfl, rfl, by decide⟩ (by omega) (th_86 (d := d - 1) (by omega) hIm1 (a0 := r2)      (by omega) ) ?_
  rintro _ m3 ⟨r4, rfl, hr4a, hr4b, hIm3, gm3⟩
  have hFm3 : zFr W_88 m0 m3 := hFm1.trans gm3 rfl
  show zW E (d) 88 17 [(2, 55), (1, r2), (9, 0), (9, 0)] [(0, r4)] m3 Q
  refine zw_9 (L' := [(2, 55), (1, r2), (9, 0), (0, r4)]) zr_88_17 (Nat.le_of_ble_eq_true rfl) rfl ?_
  have lp18_7 : ∀ (nlp18_7 : Nat) (i5 : Int) (m6 : zM), zInv m6 → zFr W_88 m0 m6 → 0 ≤ i5 → i5 ≤ 4 → (4 - i5).toNat < nlp18_7 → zW E (d) 88 18 [(2, 55), (1, r2), (9, 0), (0, i5)] [] m6 Q := by
    intro nlp18_7
    induction nlp18_7 with
    | zero =>
      intros
      exact absurd (by assumption : _ < 0) (Nat.not_lt_zero _)
    | succ nlp18_7 ihlp18_7 =>
      intro i5 m6 hIm6 hFm6 li5 ui5 hmlp18_7
      refine zw_3 zr_88_18 rfl ?_
      refine zw_push zr_88_19 ?_
      refine zw_41_2 zr_88_20 ?_ ?_
      · intro h9
        refine zw_push zr_88_60 ?_
        refine zw_R zr_88_63 (by decide) zm_88 (v := (1, (-5))) rfl ?_
        rw [← hQ]; exact ⟨_, rfl, by omega, by omega, hIm6, hFm6⟩
      · intro h10
        refine zw_7 zr_88_23 rfl ?_
        refine zw_push zr_88_24 ?_
        refine zw_47 (c := 55) zr_88_27 rfl ⟨rfl, by decide, rfl⟩ ?_
        intro m11 em11
        have hIm11 : zInv m11 := by rw [em11]; exact hIm6.anyl (by omega) (by decide) rfl (by decide) (by decide)
        have hFm11 : zFr W_88 m0 m11 := by rw [em11]; exact hFm6.up rfl
        have km11_55_5 : m11 55 5 = (-1) := by rw [em11]; exact zUp_eq _ _ _ _
        clear em11
        refine zw_7 zr_88_30 rfl ?_
        refine zw_5 zr_88_31 rfl ?_
        refine zw_push zr_88_32 ?_
        refine zw_push zr_88_33 ?_
        refine zw_3 zr_88_34 rfl ?_
        refine zw_C zr_88_35 (Or.inl rfl) zm_87 rfl rfl ⟨Nat.le_of_ble_eq_true rfl, Nat.le_of_ble_eq_true rfl, Nat.le_of_ble_eq_true rfl, rfl, by decide⟩ (by omega) (th_87 (d := d - 1) (by omega) hIm11 (a0 := r2) (a1 := 0) (a2 := 0) (a3 := i5)      (by omega) (by omega) (by omega) (by omega) ) ?_
        rintro _ m12 ⟨rfl, hIm12, gm12⟩
        have hFm12 : zFr W_88 m0 m12 := hFm11.trans gm12 rfl
        show zW E (d) 88 38 [(2, 55), (1, r2), (9, 0), (0, i5)] [] m12 Q
        refine zw_7 zr_88_38 rfl ?_
        obtain ⟨f13, ef13⟩ : ∃ v, m12 55 5 = v := ⟨_, rfl⟩
        have bf13 := hIm12.fl (c := 55) (k := 5) rfl
        rw [ef13] at bf13
        refine zw_46l zr_88_39 ef13 rfl rfl rfl ?_
        refine zw_push zr_88_42 ?_
        refine zw_39_1 zr_88_45 zr_88_46 ?_ ?_
        · intro h14
          refine zw_15 (c := 1) (L' := [(2, 55), (1, r2), (9, 0), (0, (i5 + 1))]) zr_88_54 rfl (by decide) (by omega) rfl ?_
          refine zw_42 zr_88_57 ?_
          exact zw_less (L := [(2, 55), (1, r2), (9, 0), (0, (i5 + 1))]) ⟨Or.inr rfl, Or.inr rfl, Or.inl rfl, Or.inr rfl, trivial⟩ (ihlp18_7 ((i5 + 1)) m12 hIm12 hFm12   (by omega) (by omega)  (by omega))
        · intro h15
          refine zw_7 zr_88_49 rfl ?_
          refine zw_46l zr_88_50 ef13 rfl rfl rfl ?_
          refine zw_R zr_88_53 (by decide) zm_88 (v := (1, f13)) rfl ?_
          rw [← hQ]; exact ⟨_, rfl, by omega, by omega, hIm12, hFm12⟩
  exact lp18_7 _ (r4) m3 hIm3 hFm3   (by omega) (by omega)  (Nat.lt_succ_self _)

abbrev W_119 : List (Nat × Nat) := [(55, 5), (56, 1000), (57, 1000), (58, 1000), (59, 1000)]
set_option maxHeartbeats 8000000 in
theorem th_119 {E : zE} {d : Nat} {m0 : zM} (hd : 11 ≤ d) (hI0 : zInv m0) : zC E d 119 [(2, 0)] m0 (fun v m' => ∃ r : Int, v = (1, r) ∧ (-9223372036854775808) ≤ r ∧ r ≤ 9223372036854775807 ∧ zInv m' ∧ zFr W_119 m0 m') := by
  have hF0 : zFr W_119 m0 m0 := zFr.rfl
  generalize hQ : (fun (v : zV) (m' : zM) => ∃ r : Int, v = (1, r) ∧ (-9223372036854775808) ≤ r ∧ r ≤ 9223372036854775807 ∧ zInv m' ∧ zFr W_119 m0 m') = Q
  show zW E d 119 0 [(2, 0)] [] m0 Q
  refine zw_7 zr_119_0 rfl ?_
  refine zw_46r (s := 55) zr_119_1 rfl rfl rfl rfl ?_
  refine zw_C zr_119_4 (Or.inl rfl) zm_88 rfl rfl ⟨Nat.le_of_ble_eq_true rfl, Nat.le_of_ble_eq_true rfl, Nat.le_of_ble_eq_true rfl, rfl, by decide⟩ (by omega) (th_88 (d := d - 1) (by omega) hI0        ) ?_
  rintro _ m1 ⟨r2, rfl, hr2a, hr2b, hIm1, gm1⟩
  have hFm1 : zFr W_119 m0 m1 := hF0.trans gm1 rfl
  show zW E (d) 119 7 [(2, 0)] [(1, r2)] m1 Q
  refine zw_R zr_119_7 (by decide) zm_119 (v := (1, r2)) rfl ?_
  rw [← hQ]; exact ⟨_, rfl, by omega, by omega, hIm1, hFm1⟩

abbrev W_187 : List (Nat × Nat) := [(80, 1000)]
set_option maxHeartbeats 8000000 in
theorem th_187 {E : zE} {d : Nat} {m0 : zM} (hd : 4 ≤ d) (hI0 : zInv m0) : zC E d 187 [(2, 69)] m0 (fun v m' => ∃ r : Int, v = (1, r) ∧ (-9223372036854775808) ≤ r ∧ r ≤ 9223372036854775807 ∧ zInv m' ∧ zFr W_187 m0 m') := by
  have hF0 : zFr W_187 m0 m0 := zFr.rfl
  generalize hQ : (fun (v : zV) (m' : zM) => ∃ r : Int, v = (1, r) ∧ (-9223372036854775808) ≤ r ∧ r ≤ 9223372036854775807 ∧ zInv m' ∧ zFr W_187 m0 m') = Q
  show zW E d 187 0 [(2, 69), (9, 0), (9, 0), (9, 0)] [] m0 Q
  refine zw_7 zr_187_0 rfl ?_
  refine zw_push zr_187_1 ?_
  refine zw_push zr_187_2 ?_
  refine zw_push zr_187_3 ?_
  refine zw_C zr_187_4 (Or.inl rfl) zm_184 rfl rfl ⟨Nat.le_of_ble_eq_true rfl, Nat.le_of_ble_eq_true rfl, Nat.le_of_ble_eq_true rfl, rfl, by decide⟩ (by omega) (th_184 (d := d - 1) (by omega) hI0 (a0 := (-1)) (a1 := (-1)) (a2 := (-1))      (by omega) (by omega) (by omega) ) ?_
  rintro _ m1 ⟨r2, rfl, hr2a, hr2b, hIm1, gm1⟩
  have hFm1 : zFr W_187 m0 m1 := hF0.trans gm1 rfl
  show zW E (d) 187 7 [(2, 69), (9, 0), (9, 0), (9, 0)] [(0, r2)] m1 Q
  refine zw_40_1 zr_187_7 ?_ ?_
  · intro h3
    refine zw_push zr_187_12 ?_
    refine zw_9 (L' := [(2, 69), (0, 0), (9, 0), (9, 0)]) zr_187_13 (Nat.le_of_ble_eq_true rfl) rfl ?_
    have lp14_6 : ∀ (nlp14_6 : Nat) (i4 : Int) (m5 : zM), zInv m5 → zFr W_187 m0 m5 → 0 ≤ i4 → i4 ≤ 60 → (60 - i4).toNat < nlp14_6 → zW E (d) 187 14 [(2, 69), (0, i4), (9, 0), (9, 0)] [] m5 Q := by
      intro nlp14_6
      induction nlp14_6 with
      | zero =>
        intros
        exact absurd (by assumption : _ < 0) (Nat.not_lt_zero _)
      | succ nlp14_6 ihlp14_6 =>
        intro i4 m5 hIm5 hFm5 li4 ui4 hmlp14_6
        refine zw_3 zr_187_14 rfl ?_
        refine zw_7 zr_187_15 rfl ?_
        refine zw_C zr_187_16 (Or.inl rfl) zm_142 rfl rfl ⟨Nat.le_of_ble_eq_true rfl, Nat.le_of_ble_eq_true rfl, Nat.le_of_ble_eq_true rfl, rfl, by decide⟩ (by omega) (P := (fun v m' => zW E (d) 187 19 [(2, 69), (0, i4), (9, 0), (9, 0)] (if v.1 = 9 then [(0, i4)] else v :: [(0, i4)]) m' Q)) ?_ (fun _ _ h => h)
        generalize hQ1 : (fun v m' => zW E (d) 187 19 [(2, 69), (0, i4), (9, 0), (9, 0)] (if v.1 = 9 then [(0, i4)] else v :: [(0, i4)]) m' Q) = Q1
        show zW E (d - 1) 142 0 [(2, 69)] [] m5 Q1
        refine zw_7 zr_142_0 rfl ?_
        refine zw_46r (s := 70) zr_142_1 rfl rfl rfl rfl ?_
        refine zw_push zr_142_4 ?_
        obtain ⟨f8, ef8⟩ : ∃ v, m5 70 823 = v := ⟨_, rfl⟩
        have bf8 : 0 ≤ m5 70 823 ∧ m5 70 823 ≤ 60 := ib_70_meetings hIm5 (by omega)
        rw [ef8] at bf8
        refine zw_48k (c := 70) (len := 826) zr_142_7 rfl rfl (by omega) (by omega) (show (823 : Int).toNat = 823 by omega) ef8 ?_
        refine zw_R zr_142_8 (by decide) zm_142 (v := (0, f8)) rfl ?_
        rw [← hQ1]
        show zW E (d) 187 19 [(2, 69), (0, i4), (9, 0), (9, 0)] [(0, f8), (0, i4)] m5 Q
        refine zw_41_3 zr_187_19 ?_ ?_
        · intro h9
          refine zw_push zr_187_50 ?_
          refine zw_9 (L' := [(2, 69), (0, 0), (9, 0), (9, 0)]) zr_187_51 (Nat.le_of_ble_eq_true rfl) rfl ?_
          have lp52_12 : ∀ (nlp52_12 : Nat) (i10 : Int) (m11 : zM), zInv m11 → zFr W_187 m0 m11 → m11 70 823 = f8 → 0 ≤ i10 → i10 ≤ 60 → (60 - i10).toNat < nlp52_12 → zW E (d) 187 52 [(2, 69), (0, i10), (9, 0), (9, 0)] [] m11 Q := by
            intro nlp52_12
            induction nlp52_12 with
            | zero =>
              intros
              exact absurd (by assumption : _ < 0) (Nat.not_lt_zero _)
            | succ nlp52_12 ihlp52_12 =>
              intro i10 m11 hIm11 hFm11 km11_70_823 li10 ui10 hmlp52_12
              refine zw_3 zr_187_52 rfl ?_
              refine zw_7 zr_187_53 rfl ?_
              refine zw_C zr_187_54 (Or.inl rfl) zm_142 rfl rfl ⟨Nat.le_of_ble_eq_true rfl, Nat.le_of_ble_eq_true rfl, Nat.le_of_ble_eq_true rfl, rfl, by decide⟩ (by omega) (P := (fun v m' => zW E (d) 187 57 [(2, 69), (0, i10), (9, 0), (9, 0)] (if v.1 = 9 then [(0, i10)] else v :: [(0, i10)]) m' Q)) ?_ (fun _ _ h => h)
              generalize hQ1 : (fun v m' => zW E (d) 187 57 [(2, 69), (0, i10), (9, 0), (9, 0)] (if v.1 = 9 then [(0, i10)] else v :: [(0, i10)]) m' Q) = Q1
              show zW E (d - 1) 142 0 [(2, 69)] [] m11 Q1
              refine zw_7 zr_142_0 rfl ?_
              refine zw_46r (s := 70) zr_142_1 rfl rfl rfl rfl ?_
              refine zw_push zr_142_4 ?_
              refine zw_48k (c := 70) (len := 826) zr_142_7 rfl rfl (by omega) (by omega) (show (823 : Int).toNat = 823 by omega) km11_70_823 ?_
              refine zw_R zr_142_8 (by decide) zm_142 (v := (0, f8)) rfl ?_
              rw [← hQ1]
              show zW E (d) 187 57 [(2, 69), (0, i10), (9, 0), (9, 0)] [(0, f8), (0, i10)] m11 Q
              refine zw_41_3 zr_187_57 ?_ ?_
              · intro h14
                refine zw_push zr_187_113 ?_
                refine zw_9 (L' := [(2, 69), (0, 0), (9, 0), (9, 0)]) zr_187_114 (Nat.le_of_ble_eq_true rfl) rfl ?_
                have lp115_17 : ∀ (nlp115_17 : Nat) (i15 : Int) (m16 : zM), zInv m16 → zFr W_187 m0 m16 → m16 70 823 = f8 → 0 ≤ i15 → i15 ≤ 60 → (60 - i15).toNat < nlp115_17 → zW E (d) 187 115 [(2, 69), (0, i15), (9, 0), (9, 0)] [] m16 Q := by
                  intro nlp115_17
                  induction nlp115_17 with
                  | zero =>
                    intros
                    exact absurd (by assumption : _ < 0) (Nat.not_lt_zero _)
                  | succ nlp115_17 ihlp115_17 =>
                    intro i15 m16 hIm16 hFm16 km16_70_823 li15 ui15 hmlp115_17
                    refine zw_3 zr_187_115 rfl ?_
                    refine zw_7 zr_187_116 rfl ?_
                    refine zw_C zr_187_117 (Or.inl rfl) zm_142 rfl rfl ⟨Nat.le_of_ble_eq_true rfl, Nat.le_of_ble_eq_true rfl, Nat.le_of_ble_eq_true rfl, rfl, by decide⟩ (by omega) (P := (fun v m' => zW E (d) 187 120 [(2, 69), (0, i15), (9, 0), (9, 0)] (if v.1 = 9 then [(0, i15)] else v :: [(0, i15)]) m' Q)) ?_ (fun _ _ h => h)
                    generalize hQ1 : (fun v m' => zW E (d) 187 120 [(2, 69), (0, i15), (9, 0), (9, 0)] (if v.1 = 9 then [(0, i15)] else v :: [(0, i15)]) m' Q) = Q1
                    show zW E (d - 1) 142 0 [(2, 69)] [] m16 Q1
                    refine zw_7 zr_142_0 rfl ?_
                    refine zw_46r (s := 70) zr_142_1 rfl rfl rfl rfl ?_
                    refine zw_push zr_142_4 ?_
                    refine zw_48k (c := 70) (len := 826) zr_142_7 rfl rfl (by omega) (by omega) (show (823 : Int).toNat = 823 by omega) km16_70_823 ?_
                    refine zw_R zr_142_8 (by decide) zm_142 (v := (0, f8)) rfl ?_
                    rw [← hQ1]
                    show zW E (d) 187 120 [(2, 69), (0, i15), (9, 0), (9, 0)] [(0, f8), (0, i15)] m16 Q
                    refine zw_41_3 zr_187_120 ?_ ?_
                    · intro h19
                      refine zw_push zr_187_201 ?_
                      refine zw_R zr_187_204 (by decide) zm_187 (v := (1, (-5))) rfl ?_
                      rw [← hQ]; exact ⟨_, rfl, by omega, by omega, hIm16, hFm16⟩
                    · intro h20
                      refine zw_push zr_187_123 ?_
                      refine zw_9 (L' := [(2, 69), (0, i15), (0, 0), (9, 0)]) zr_187_124 (Nat.le_of_ble_eq_true rfl) rfl ?_
                      have lp125_23 : ∀ (nlp125_23 : Nat) (i21 : Int) (m22 : zM), zInv m22 → zFr W_187 m0 m22 → m22 70 823 = f8 → 0 ≤ i21 → i21 ≤ 59 → (59 - i21).toNat < nlp125_23 → zW E (d) 187 125 [(2, 69), (0, i15), (0, i21), (9, 0)] [] m22 Q := by
                        intro nlp125_23
                        induction nlp125_23 with
                        | zero =>
                          intros
                          exact absurd (by assumption : _ < 0) (Nat.not_lt_zero _)
                        | succ nlp125_23 ihlp125_23 =>
                          intro i21 m22 hIm22 hFm22 km22_70_823 li21 ui21 hmlp125_23
                          refine zw_3 zr_187_125 rfl ?_
                          refine zw_3 zr_187_126 rfl ?_
                          refine zw_41_3 zr_187_127 ?_ ?_
                          · intro h25
                            refine zw_15 (c := 1) (L' := [(2, 69), (0, (i15 + 1)), (0, i21), (9, 0)]) zr_187_195 rfl (by decide) (by omega) rfl ?_
                            refine zw_42 zr_187_198 ?_
                            exact zw_less (L := [(2, 69), (0, (i15 + 1)), (9, 0), (9, 0)]) ⟨Or.inr rfl, Or.inr rfl, Or.inl rfl, Or.inl rfl, trivial⟩ (ihlp115_17 ((i15 + 1)) m22 hIm22 hFm22  km22_70_823 (by omega) (by omega)  (by omega))
                          · intro h26
                            refine zw_push zr_187_130 ?_
                            refine zw_9 (L' := [(2, 69), (0, i15), (0, i21), (0, 0)]) zr_187_131 (Nat.le_of_ble_eq_true rfl) rfl ?_
                            have lp132_29 : ∀ (nlp132_29 : Nat) (i27 : Int) (m28 : zM), zInv m28 → zFr W_187 m0 m28 → m28 70 823 = f8 → 0 ≤ i27 → i27 ≤ 59 → (59 - i27).toNat < nlp132_29 → zW E (d) 187 132 [(2, 69), (0, i15), (0, i21), (0, i27)] [] m28 Q := by
                              intro nlp132_29
                              induction nlp132_29 with
                              | zero =>
                                intros
                                exact absurd (by assumption : _ < 0) (Nat.not_lt_zero _)
                              | succ nlp132_29 ihlp132_29 =>
                                intro i27 m28 hIm28 hFm28 km28_70_823 li27 ui27 hmlp132_29
                                refine zw_3 zr_187_132 rfl ?_
                                refine zw_3 zr_187_133 rfl ?_
                                refine zw_41_3 zr_187_134 ?_ ?_
                                · intro h31
                                  refine zw_15 (c := 1) (L' := [(2, 69), (0, i15), (0, (i21 + 1)), (0, i27)]) zr_187_189 rfl (by decide) (by omega) rfl ?_
                                  refine zw_42 zr_187_192 ?_
                                  exact zw_less (L := [(2, 69), (0, i15), (0, (i21 + 1)), (9, 0)]) ⟨Or.inr rfl, Or.inr rfl, Or.inr rfl, Or.inl rfl, trivial⟩ (ihlp125_23 ((i21 + 1)) m28 hIm28 hFm28  km28_70_823 (by omega) (by omega)  (by omega))
                                · intro h32
                                  refine zw_7 zr_187_137 rfl ?_
                                  refine zw_3 zr_187_138 rfl ?_
                                  refine zw_C zr_187_139 (Or.inl rfl) zm_181 rfl rfl ⟨Nat.le_of_ble_eq_true rfl, Nat.le_of_ble_eq_true rfl, Nat.le_of_ble_eq_true rfl, rfl, by decide⟩ (by omega) (P := (fun v m' => zW E (d) 187 142 [(2, 69), (0, i15), (0, i21), (0, i27)] (if v.1 = 9 then [] else v :: []) m' Q)) ?_ (fun _ _ h => h)
                                  generalize hQ1 : (fun v m' => zW E (d) 187 142 [(2, 69), (0, i15), (0, i21), (0, i27)] (if v.1 = 9 then [] else v :: []) m' Q) = Q1
                                  show zW E (d - 1) 181 0 [(2, 69), (0, i27)] [] m28 Q1
                                  refine zw_7 zr_181_0 rfl ?_
                                  refine zw_3 zr_181_1 rfl ?_
                                  refine zw_push zr_181_2 ?_
                                  refine zw_C zr_181_3 (Or.inl rfl) zm_144 rfl rfl ⟨Nat.le_of_ble_eq_true rfl, Nat.le_of_ble_eq_true rfl, Nat.le_of_ble_eq_true rfl, rfl, by decide⟩ (by omega) (P := (fun v m' => zW E (d - 1) 181 6 [(2, 69), (0, i27)] (if v.1 = 9 then [] else v :: []) m' Q1)) ?_ (fun _ _ h => h)
                                  generalize hQ2 : (fun v m' => zW E (d - 1) 181 6 [(2, 69), (0, i27)] (if v.1 = 9 then [] else v :: []) m' Q1) = Q2
                                  show zW E (d - 1 - 1) 144 0 [(2, 69), (0, i27), (0, 4)] [] m28 Q2
                                  refine zw_7 zr_144_0 rfl ?_
                                  refine zw_46r (s := 70) zr_144_1 rfl rfl rfl rfl ?_
                                  refine zw_push zr_144_4 ?_
                                  refine zw_push zr_144_6 ?_
                                  refine zw_3 zr_144_8 rfl ?_
                                  refine zw_18 zr_144_9 (by omega) ?_
                                  refine zw_16 zr_144_10 (by omega) ?_
                                  refine zw_3 zr_144_11 rfl ?_
                                  refine zw_16 zr_144_12 (by omega) ?_
                                  refine zw_48 (c := 70) (len := 826) zr_144_13 rfl rfl (by omega) (by omega) ?_
                                  intro x33 ex33
                                  have bx33 := ib_70_m4 hIm28 (k := (((90 + (6 * i27)) + 4)).toNat) (by omega)
                                  rw [← ex33] at bx33
                                  clear ex33
                                  refine zw_R zr_144_14 (by decide) zm_144 (v := (0, x33)) rfl ?_
                                  rw [← hQ2]
                                  show zW E (d - 1) 181 6 [(2, 69), (0, i27)] [(0, x33)] m28 Q1
                                  refine zw_40_4 zr_181_6 ?_ ?_
                                  · intro h34
                                    refine zw_push zr_181_22 ?_
                                    refine zw_R zr_181_23 (by decide) zm_181 (v := (0, 0)) (zRetB (by omega)) ?_
                                    rw [← hQ1]
                                    show zW E (d) 187 142 [(2, 69), (0, i15), (0, i21), (0, i27)] [(0, 0)] m28 Q
                                    refine zw_40_1 zr_187_142 ?_ ?_
                                    · intro h35
                                      refine zw_15 (c := 1) (L' := [(2, 69), (0, i15), (0, i21), (0, (i27 + 1))]) zr_187_183 rfl (by decide) (by omega) rfl ?_
                                      refine zw_42 zr_187_186 ?_
                                      exact zw_less (L := [(2, 69), (0, i15), (0, i21), (0, (i27 + 1))]) ⟨Or.inr rfl, Or.inr rfl, Or.inr rfl, Or.inr rfl, trivial⟩ (ihlp132_29 ((i27 + 1)) m28 hIm28 hFm28  km28_70_823 (by omega) (by omega)  (by omega))
                                    · intro h36; omega
                                  · intro h37
                                    refine zw_7 zr_181_9 rfl ?_
                                    refine zw_3 zr_181_10 rfl ?_
                                    refine zw_push zr_181_11 ?_
                                    refine zw_C zr_181_12 (Or.inl rfl) zm_144 rfl rfl ⟨Nat.le_of_ble_eq_true rfl, Nat.le_of_ble_eq_true rfl, Nat.le_of_ble_eq_true rfl, rfl, by decide⟩ (by omega) (P := (fun v m' => zW E (d - 1) 181 15 [(2, 69), (0, i27)] (if v.1 = 9 then [] else v :: []) m' Q1)) ?_ (fun _ _ h => h)
                                    generalize hQ2 : (fun v m' => zW E (d - 1) 181 15 [(2, 69), (0, i27)] (if v.1 = 9 then [] else v :: []) m' Q1) = Q2
                                    show zW E (d - 1 - 1) 144 0 [(2, 69), (0, i27), (0, 5)] [] m28 Q2
                                    refine zw_7 zr_144_0 rfl ?_
                                    refine zw_46r (s := 70) zr_144_1 rfl rfl rfl rfl ?_
                                    refine zw_push zr_144_4 ?_
                                    refine zw_push zr_144_6 ?_
                                    refine zw_3 zr_144_8 rfl ?_
                                    refine zw_18 zr_144_9 (by omega) ?_
                                    refine zw_16 zr_144_10 (by omega) ?_
                                    refine zw_3 zr_144_11 rfl ?_
                                    refine zw_16 zr_144_12 (by omega) ?_
                                    refine zw_48 (c := 70) (len := 826) zr_144_13 rfl rfl (by omega) (by omega) ?_
                                    intro x38 ex38
                                    have bx38 := ib_70_m5 hIm28 (k := (((90 + (6 * i27)) + 5)).toNat) (by omega)
                                    rw [← ex38] at bx38
                                    clear ex38
                                    refine zw_R zr_144_14 (by decide) zm_144 (v := (0, x38)) rfl ?_
                                    rw [← hQ2]
                                    show zW E (d - 1) 181 15 [(2, 69), (0, i27)] [(0, x38)] m28 Q1
                                    refine zw_40_4 zr_181_15 ?_ ?_
                                    · intro h39
                                      refine zw_push zr_181_22 ?_
                                      refine zw_R zr_181_23 (by decide) zm_181 (v := (0, 0)) (zRetB (by omega)) ?_
                                      rw [← hQ1]
                                      show zW E (d) 187 142 [(2, 69), (0, i15), (0, i21), (0, i27)] [(0, 0)] m28 Q
                                      refine zw_40_1 zr_187_142 ?_ ?_
                                      · intro h40
                                        refine zw_15 (c := 1) (L' := [(2, 69), (0, i15), (0, i21), (0, (i27 + 1))]) zr_187_183 rfl (by decide) (by omega) rfl ?_
                                        refine zw_42 zr_187_186 ?_
                                        exact zw_less (L := [(2, 69), (0, i15), (0, i21), (0, (i27 + 1))]) ⟨Or.inr rfl, Or.inr rfl, Or.inr rfl, Or.inr rfl, trivial⟩ (ihlp132_29 ((i27 + 1)) m28 hIm28 hFm28  km28_70_823 (by omega) (by omega)  (by omega))
                                      · intro h41; omega
                                    · intro h42
                                      refine zw_push zr_181_18 ?_
                                      refine zw_42 zr_181_19 ?_
                                      refine zw_R zr_181_23 (by decide) zm_181 (v := (0, 1)) (zRetB (by omega)) ?_
                                      rw [← hQ1]
                                      show zW E (d) 187 142 [(2, 69), (0, i15), (0, i21), (0, i27)] [(0, 1)] m28 Q
                                      refine zw_40_1 zr_187_142 ?_ ?_
                                      · intro h43; omega
                                      · intro h44
                                        refine zw_7 zr_187_145 rfl ?_
                                        refine zw_3 zr_187_146 rfl ?_
                                        refine zw_C zr_187_147 (Or.inl rfl) zm_181 rfl rfl ⟨Nat.le_of_ble_eq_true rfl, Nat.le_of_ble_eq_true rfl, Nat.le_of_ble_eq_true rfl, rfl, by decide⟩ (by omega) (P := (fun v m' => zW E (d) 187 150 [(2, 69), (0, i15), (0, i21), (0, i27)] (if v.1 = 9 then [] else v :: []) m' Q)) ?_ (fun _ _ h => h)
                                        generalize hQ1 : (fun v m' => zW E (d) 187 150 [(2, 69), (0, i15), (0, i21), (0, i27)] (if v.1 = 9 then [] else v :: []) m' Q) = Q1
                                        show zW E (d - 1) 181 0 [(2, 69), (0, i21)] [] m28 Q1
                                        refine zw_7 zr_181_0 rfl ?_
                                        refine zw_3 zr_181_1 rfl ?_
                                        refine zw_push zr_181_2 ?_
                                        refine zw_C zr_181_3 (Or.inl rfl) zm_144 rfl rfl ⟨Nat.le_of_ble_eq_true rfl, Nat.le_of_ble_eq_true rfl, Nat.le_of_ble_eq_true rfl, rfl, by decide⟩ (by omega) (P := (fun v m' => zW E (d - 1) 181 6 [(2, 69), (0, i21)] (if v.1 = 9 then [] else v :: []) m' Q1)) ?_ (fun _ _ h => h)
                                        generalize hQ2 : (fun v m' => zW E (d - 1) 181 6 [(2, 69), (0, i21)] (if v.1 = 9 then [] else v :: []) m' Q1) = Q2
                                        show zW E (d - 1 - 1) 144 0 [(2, 69), (0, i21), (0, 4)] [] m28 Q2
                                        refine zw_7 zr_144_0 rfl ?_
                                        refine zw_46r (s := 70) zr_144_1 rfl rfl rfl rfl ?_
                                        refine zw_push zr_144_4 ?_
                                        refine zw_push zr_144_6 ?_
                                        refine zw_3 zr_144_8 rfl ?_
                                        refine zw_18 zr_144_9 (by omega) ?_
                                        refine zw_16 zr_144_10 (by omega) ?_
                                        refine zw_3 zr_144_11 rfl ?_
                                        refine zw_16 zr_144_12 (by omega) ?_
                                        refine zw_48 (c := 70) (len := 826) zr_144_13 rfl rfl (by omega) (by omega) ?_
                                        intro x45 ex45
                                        have bx45 := ib_70_m4 hIm28 (k := (((90 + (6 * i21)) + 4)).toNat) (by omega)
                                        rw [← ex45] at bx45
                                        clear ex45
                                        refine zw_R zr_144_14 (by decide) zm_144 (v := (0, x45)) rfl ?_
                                        rw [← hQ2]
                                        show zW E (d - 1) 181 6 [(2, 69), (0, i21)] [(0, x45)] m28 Q1
                                        refine zw_40_4 zr_181_6 ?_ ?_
                                        · intro h46
                                          refine zw_push zr_181_22 ?_
                                          refine zw_R zr_181_23 (by decide) zm_181 (v := (0, 0)) (zRetB (by omega)) ?_
                                          rw [← hQ1]
                                          show zW E (d) 187 150 [(2, 69), (0, i15), (0, i21), (0, i27)] [(0, 0)] m28 Q
                                          refine zw_40_1 zr_187_150 ?_ ?_
                                          · intro h47
                                            refine zw_15 (c := 1) (L' := [(2, 69), (0, i15), (0, i21), (0, (i27 + 1))]) zr_187_183 rfl (by decide) (by omega) rfl ?_
                                            refine zw_42 zr_187_186 ?_
                                            exact zw_less (L := [(2, 69), (0, i15), (0, i21), (0, (i27 + 1))]) ⟨Or.inr rfl, Or.inr rfl, Or.inr rfl, Or.inr rfl, trivial⟩ (ihlp132_29 ((i27 + 1)) m28 hIm28 hFm28  km28_70_823 (by omega) (by omega)  (by omega))
                                          · intro h48; omega
                                        · intro h49
                                          refine zw_7 zr_181_9 rfl ?_
                                          refine zw_3 zr_181_10 rfl ?_
                                          refine zw_push zr_181_11 ?_
                                          refine zw_C zr_181_12 (Or.inl rfl) zm_144 rfl rfl ⟨Nat.le_of_ble_eq_true rfl, Nat.le_of_ble_eq_true rfl, Nat.le_of_ble_eq_true rfl, rfl, by decide⟩ (by omega) (P := (fun v m' => zW E (d - 1) 181 15 [(2, 69), (0, i21)] (if v.1 = 9 then [] else v :: []) m' Q1)) ?_ (fun _ _ h => h)
                                          generalize hQ2 : (fun v m' => zW E (d - 1) 181 15 [(2, 69), (0, i21)] (if v.1 = 9 then [] else v :: []) m' Q1) = Q2
                                          show zW E (d - 1 - 1) 144 0 [(2, 69), (0, i21), (0, 5)] [] m28 Q2
                                          refine zw_7 zr_144_0 rfl ?_
                                          refine zw_46r (s := 70) zr_144_1 rfl rfl rfl rfl ?_
                                          refine zw_push zr_144_4 ?_
                                          refine zw_push zr_144_6 ?_
                                          refine zw_3 zr_144_8 rfl ?_
                                          refine zw_18 zr_144_9 (by omega) ?_
                                          refine zw_16 zr_144_10 (by omega) ?_
                                          refine zw_3 zr_144_11 rfl ?_
                                          refine zw_16 zr_144_12 (by omega) ?_
                                          refine zw_48 (c := 70) (len := 826) zr_144_13 rfl rfl (by omega) (by omega) ?_
                                          intro x50 ex50
                                          have bx50 := ib_70_m5 hIm28 (k := (((90 + (6 * i21)) + 5)).toNat) (by omega)
                                          rw [← ex50] at bx50
                                          clear ex50
                                          refine zw_R zr_144_14 (by decide) zm_144 (v := (0, x50)) rfl ?_
                                          rw [← hQ2]
                                          show zW E (d - 1) 181 15 [(2, 69), (0, i21)] [(0, x50)] m28 Q1
                                          refine zw_40_4 zr_181_15 ?_ ?_
                                          · intro h51
                                            refine zw_push zr_181_22 ?_
                                            refine zw_R zr_181_23 (by decide) zm_181 (v := (0, 0)) (zRetB (by omega)) ?_
                                            rw [← hQ1]
                                            show zW E (d) 187 150 [(2, 69), (0, i15), (0, i21), (0, i27)] [(0, 0)] m28 Q
                                            refine zw_40_1 zr_187_150 ?_ ?_
                                            · intro h52
                                              refine zw_15 (c := 1) (L' := [(2, 69), (0, i15), (0, i21), (0, (i27 + 1))]) zr_187_183 rfl (by decide) (by omega) rfl ?_
                                              refine zw_42 zr_187_186 ?_
                                              exact zw_less (L := [(2, 69), (0, i15), (0, i21), (0, (i27 + 1))]) ⟨Or.inr rfl, Or.inr rfl, Or.inr rfl, Or.inr rfl, trivial⟩ (ihlp132_29 ((i27 + 1)) m28 hIm28 hFm28  km28_70_823 (by omega) (by omega)  (by omega))
                                            · intro h53; omega
                                          · intro h54
                                            refine zw_push zr_181_18 ?_
                                            refine zw_42 zr_181_19 ?_
                                            refine zw_R zr_181_23 (by decide) zm_181 (v := (0, 1)) (zRetB (by omega)) ?_
                                            rw [← hQ1]
                                            show zW E (d) 187 150 [(2, 69), (0, i15), (0, i21), (0, i27)] [(0, 1)] m28 Q
                                            refine zw_40_1 zr_187_150 ?_ ?_
                                            · intro h55; omega
                                            · intro h56
                                              refine zw_7 zr_187_153 rfl ?_
                                              refine zw_3 zr_187_154 rfl ?_
                                              refine zw_C zr_187_155 (Or.inl rfl) zm_181 rfl rfl ⟨Nat.le_of_ble_eq_true rfl, Nat.le_of_ble_eq_true rfl, Nat.le_of_ble_eq_true rfl, rfl, by decide⟩ (by omega) (P := (fun v m' => zW E (d) 187 158 [(2, 69), (0, i15), (0, i21), (0, i27)] (if v.1 = 9 then [] else v :: []) m' Q)) ?_ (fun _ _ h => h)
                                              generalize hQ1 : (fun v m' => zW E (d) 187 158 [(2, 69), (0, i15), (0, i21), (0, i27)] (if v.1 = 9 then [] else v :: []) m' Q) = Q1
                                              show zW E (d - 1) 181 0 [(2, 69), (0, i15)] [] m28 Q1
                                              refine zw_7 zr_181_0 rfl ?_
                                              refine zw_3 zr_181_1 rfl ?_
                                              refine zw_push zr_181_2 ?_
                                              refine zw_C zr_181_3 (Or.inl rfl) zm_144 rfl rfl ⟨Nat.le_of_ble_eq_true rfl, Nat.le_of_ble_eq_true rfl, Nat.le_of_ble_eq_true rfl, rfl, by decide⟩ (by omega) (P := (fun v m' => zW E (d - 1) 181 6 [(2, 69), (0, i15)] (if v.1 = 9 then [] else v :: []) m' Q1)) ?_ (fun _ _ h => h)
                                              generalize hQ2 : (fun v m' => zW E (d - 1) 181 6 [(2, 69), (0, i15)] (if v.1 = 9 then [] else v :: []) m' Q1) = Q2
                                              show zW E (d - 1 - 1) 144 0 [(2, 69), (0, i15), (0, 4)] [] m28 Q2
                                              refine zw_7 zr_144_0 rfl ?_
                                              refine zw_46r (s := 70) zr_144_1 rfl rfl rfl rfl ?_
                                              refine zw_push zr_144_4 ?_
                                              refine zw_push zr_144_6 ?_
                                              refine zw_3 zr_144_8 rfl ?_
                                              refine zw_18 zr_144_9 (by omega) ?_
                                              refine zw_16 zr_144_10 (by omega) ?_
                                              refine zw_3 zr_144_11 rfl ?_
                                              refine zw_16 zr_144_12 (by omega) ?_
                                              refine zw_48 (c := 70) (len := 826) zr_144_13 rfl rfl (by omega) (by omega) ?_
                                              intro x57 ex57
                                              have bx57 := ib_70_m4 hIm28 (k := (((90 + (6 * i15)) + 4)).toNat) (by omega)
                                              rw [← ex57] at bx57
                                              clear ex57
                                              refine zw_R zr_144_14 (by decide) zm_144 (v := (0, x57)) rfl ?_
                                              rw [← hQ2]
                                              show zW E (d - 1) 181 6 [(2, 69), (0, i15)] [(0, x57)] m28 Q1
                                              refine zw_40_4 zr_181_6 ?_ ?_
                                              · intro h58
                                                refine zw_push zr_181_22 ?_
                                                refine zw_R zr_181_23 (by decide) zm_181 (v := (0, 0)) (zRetB (by omega)) ?_
                                                rw [← hQ1]
                                                show zW E (d) 187 158 [(2, 69), (0, i15), (0, i21), (0, i27)] [(0, 0)] m28 Q
                                                refine zw_40_1 zr_187_158 ?_ ?_
                                                · intro h59
                                                  refine zw_15 (c := 1) (L' := [(2, 69), (0, i15), (0, i21), (0, (i27 + 1))]) zr_187_183 rfl (by decide) (by omega) rfl ?_
                                                  refine zw_42 zr_187_186 ?_
                                                  exact zw_less (L := [(2, 69), (0, i15), (0, i21), (0, (i27 + 1))]) ⟨Or.inr rfl, Or.inr rfl, Or.inr rfl, Or.inr rfl, trivial⟩ (ihlp132_29 ((i27 + 1)) m28 hIm28 hFm28  km28_70_823 (by omega) (by omega)  (by omega))
                                                · intro h60; omega
                                              · intro h61
                                                refine zw_7 zr_181_9 rfl ?_
                                                refine zw_3 zr_181_10 rfl ?_
                                                refine zw_push zr_181_11 ?_
                                                refine zw_C zr_181_12 (Or.inl rfl) zm_144 rfl rfl ⟨Nat.le_of_ble_eq_true rfl, Nat.le_of_ble_eq_true rfl, Nat.le_of_ble_eq_true rfl, rfl, by decide⟩ (by omega) (P := (fun v m' => zW E (d - 1) 181 15 [(2, 69), (0, i15)] (if v.1 = 9 then [] else v :: []) m' Q1)) ?_ (fun _ _ h => h)
                                                generalize hQ2 : (fun v m' => zW E (d - 1) 181 15 [(2, 69), (0, i15)] (if v.1 = 9 then [] else v :: []) m' Q1) = Q2
                                                show zW E (d - 1 - 1) 144 0 [(2, 69), (0, i15), (0, 5)] [] m28 Q2
                                                refine zw_7 zr_144_0 rfl ?_
                                                refine zw_46r (s := 70) zr_144_1 rfl rfl rfl rfl ?_
                                                refine zw_push zr_144_4 ?_
                                                refine zw_push zr_144_6 ?_
                                                refine zw_3 zr_144_8 rfl ?_
                                                refine zw_18 zr_144_9 (by omega) ?_
                                                refine zw_16 zr_144_10 (by omega) ?_
                                                refine zw_3 zr_144_11 rfl ?_
                                                refine zw_16 zr_144_12 (by omega) ?_
                                                refine zw_48 (c := 70) (len := 826) zr_144_13 rfl rfl (by omega) (by omega) ?_
                                                intro x62 ex62
                                                have bx62 := ib_70_m5 hIm28 (k := (((90 + (6 * i15)) + 5)).toNat) (by omega)
                                                rw [← ex62] at bx62
                                                clear ex62
                                                refine zw_R zr_144_14 (by decide) zm_144 (v := (0, x62)) rfl ?_
                                                rw [← hQ2]
                                                show zW E (d - 1) 181 15 [(2, 69), (0, i15)] [(0, x62)] m28 Q1
                                                refine zw_40_4 zr_181_15 ?_ ?_
                                                · intro h63
                                                  refine zw_push zr_181_22 ?_
                                                  refine zw_R zr_181_23 (by decide) zm_181 (v := (0, 0)) (zRetB (by omega)) ?_
                                                  rw [← hQ1]
                                                  show zW E (d) 187 158 [(2, 69), (0, i15), (0, i21), (0, i27)] [(0, 0)] m28 Q
                                                  refine zw_40_1 zr_187_158 ?_ ?_
                                                  · intro h64
                                                    refine zw_15 (c := 1) (L' := [(2, 69), (0, i15), (0, i21), (0, (i27 + 1))]) zr_187_183 rfl (by decide) (by omega) rfl ?_
                                                    refine zw_42 zr_187_186 ?_
                                                    exact zw_less (L := [(2, 69), (0, i15), (0, i21), (0, (i27 + 1))]) ⟨Or.inr rfl, Or.inr rfl, Or.inr rfl, Or.inr rfl, trivial⟩ (ihlp132_29 ((i27 + 1)) m28 hIm28 hFm28  km28_70_823 (by omega) (by omega)  (by omega))
                                                  · intro h65; omega
                                                · intro h66
                                                  refine zw_push zr_181_18 ?_
                                                  refine zw_42 zr_181_19 ?_
                                                  refine zw_R zr_181_23 (by decide) zm_181 (v := (0, 1)) (zRetB (by omega)) ?_
                                                  rw [← hQ1]
                                                  show zW E (d) 187 158 [(2, 69), (0, i15), (0, i21), (0, i27)] [(0, 1)] m28 Q
                                                  refine zw_40_1 zr_187_158 ?_ ?_
                                                  · intro h67; omega
                                                  · intro h68
                                                    refine zw_7 zr_187_161 rfl ?_
                                                    refine zw_3 zr_187_162 rfl ?_
                                                    refine zw_3 zr_187_163 rfl ?_
                                                    refine zw_3 zr_187_164 rfl ?_
                                                    refine zw_C zr_187_165 (Or.inl rfl) zm_184 rfl rfl ⟨Nat.le_of_ble_eq_true rfl, Nat.le_of_ble_eq_true rfl, Nat.le_of_ble_eq_true rfl, rfl, by decide⟩ (by omega) (th_184 (d := d - 1) (by omega) hIm28 (a0 := i27) (a1 := i21) (a2 := i15)      (by omega) (by omega) (by omega) ) ?_
                                                    rintro _ m69 ⟨r70, rfl, hr70a, hr70b, hIm69, gm69⟩
                                                    have hFm69 : zFr W_187 m0 m69 := hFm28.trans gm69 rfl
                                                    have km69_70_823 : m69 70 823 = f8 := (gm69 70 823 rfl).trans km28_70_823
                                                    show zW E (d) 187 168 [(2, 69), (0, i15), (0, i21), (0, i27)] [(0, r70)] m69 Q
                                                    refine zw_40_1 zr_187_168 ?_ ?_
                                                    · intro h71
                                                      refine zw_15 (c := 1) (L' := [(2, 69), (0, i15), (0, i21), (0, (i27 + 1))]) zr_187_183 rfl (by decide) (by omega) rfl ?_
                                                      refine zw_42 zr_187_186 ?_
                                                      exact zw_less (L := [(2, 69), (0, i15), (0, i21), (0, (i27 + 1))]) ⟨Or.inr rfl, Or.inr rfl, Or.inr rfl, Or.inr rfl, trivial⟩ (ihlp132_29 ((i27 + 1)) m69 hIm69 hFm69  km69_70_823 (by omega) (by omega)  (by omega))
                                                    · intro h72
                                                      refine zw_push zr_187_171 ?_
                                                      refine zw_3 zr_187_172 rfl ?_
                                                      refine zw_33p zr_187_173 (by omega) ?_
                                                      intro x73 ex73 hx73a hx73b
                                                      refine zw_push zr_187_174 ?_
                                                      refine zw_3 zr_187_175 rfl ?_
                                                      refine zw_33p zr_187_176 (by omega) ?_
                                                      intro x74 ex74 hx74a hx74b
                                                      refine zw_31h zr_187_177 ?_
                                                      intro x75 hx75a hx75b
                                                      refine zw_push zr_187_178 ?_
                                                      refine zw_3 zr_187_179 rfl ?_
                                                      refine zw_33p zr_187_180 (by omega) ?_
                                                      intro x76 ex76 hx76a hx76b
                                                      refine zw_31h zr_187_181 ?_
                                                      intro x77 hx77a hx77b
                                                      refine zw_R zr_187_182 (by decide) zm_187 (v := (1, x77)) rfl ?_
                                                      rw [← hQ]; exact ⟨_, rfl, by omega, by omega, hIm69, hFm69⟩
                            exact lp132_29 _ (0) m22 hIm22 hFm22  km22_70_823 (by omega) (by omega)  (Nat.lt_succ_self _)
                      exact lp125_23 _ (0) m16 hIm16 hFm16  km16_70_823 (by omega) (by omega)  (Nat.lt_succ_self _)
                exact lp115_17 _ (0) m11 hIm11 hFm11  km11_70_823 (by omega) (by omega)  (Nat.lt_succ_self _)
              · intro h78
                refine zw_push zr_187_60 ?_
                refine zw_9 (L' := [(2, 69), (0, i10), (0, 0), (9, 0)]) zr_187_61 (Nat.le_of_ble_eq_true rfl) rfl ?_
                have lp62_81 : ∀ (nlp62_81 : Nat) (i79 : Int) (m80 : zM), zInv m80 → zFr W_187 m0 m80 → m80 70 823 = f8 → 0 ≤ i79 → i79 ≤ 59 → (59 - i79).toNat < nlp62_81 → zW E (d) 187 62 [(2, 69), (0, i10), (0, i79), (9, 0)] [] m80 Q := by
                  intro nlp62_81
                  induction nlp62_81 with
                  | zero =>
                    intros
                    exact absurd (by assumption : _ < 0) (Nat.not_lt_zero _)
                  | succ nlp62_81 ihlp62_81 =>
                    intro i79 m80 hIm80 hFm80 km80_70_823 li79 ui79 hmlp62_81
                    refine zw_3 zr_187_62 rfl ?_
                    refine zw_3 zr_187_63 rfl ?_
                    refine zw_41_3 zr_187_64 ?_ ?_
                    · intro h83
                      refine zw_15 (c := 1) (L' := [(2, 69), (0, (i10 + 1)), (0, i79), (9, 0)]) zr_187_107 rfl (by decide) (by omega) rfl ?_
                      refine zw_42 zr_187_110 ?_
                      exact zw_less (L := [(2, 69), (0, (i10 + 1)), (9, 0), (9, 0)]) ⟨Or.inr rfl, Or.inr rfl, Or.inl rfl, Or.inl rfl, trivial⟩ (ihlp52_12 ((i10 + 1)) m80 hIm80 hFm80  km80_70_823 (by omega) (by omega)  (by omega))
                    · intro h84
                      refine zw_7 zr_187_67 rfl ?_
                      refine zw_3 zr_187_68 rfl ?_
                      refine zw_C zr_187_69 (Or.inl rfl) zm_181 rfl rfl ⟨Nat.le_of_ble_eq_true rfl, Nat.le_of_ble_eq_true rfl, Nat.le_of_ble_eq_true rfl, rfl, by decide⟩ (by omega) (P := (fun v m' => zW E (d) 187 72 [(2, 69), (0, i10), (0, i79), (9, 0)] (if v.1 = 9 then [] else v :: []) m' Q)) ?_ (fun _ _ h => h)
                      generalize hQ1 : (fun v m' => zW E (d) 187 72 [(2, 69), (0, i10), (0, i79), (9, 0)] (if v.1 = 9 then [] else v :: []) m' Q) = Q1
                      show zW E (d - 1) 181 0 [(2, 69), (0, i79)] [] m80 Q1
                      refine zw_7 zr_181_0 rfl ?_
                      refine zw_3 zr_181_1 rfl ?_
                      refine zw_push zr_181_2 ?_
                      refine zw_C zr_181_3 (Or.inl rfl) zm_144 rfl rfl ⟨Nat.le_of_ble_eq_true rfl, Nat.le_of_ble_eq_true rfl, Nat.le_of_ble_eq_true rfl, rfl, by decide⟩ (by omega) (P := (fun v m' => zW E (d - 1) 181 6 [(2, 69), (0, i79)] (if v.1 = 9 then [] else v :: []) m' Q1)) ?_ (fun _ _ h => h)
                      generalize hQ2 : (fun v m' => zW E (d - 1) 181 6 [(2, 69), (0, i79)] (if v.1 = 9 then [] else v :: []) m' Q1) = Q2
                      show zW E (d - 1 - 1) 144 0 [(2, 69), (0, i79), (0, 4)] [] m80 Q2
                      refine zw_7 zr_144_0 rfl ?_
                      refine zw_46r (s := 70) zr_144_1 rfl rfl rfl rfl ?_
                      refine zw_push zr_144_4 ?_
                      refine zw_push zr_144_6 ?_
                      refine zw_3 zr_144_8 rfl ?_
                      refine zw_18 zr_144_9 (by omega) ?_
                      refine zw_16 zr_144_10 (by omega) ?_
                      refine zw_3 zr_144_11 rfl ?_
                      refine zw_16 zr_144_12 (by omega) ?_
                      refine zw_48 (c := 70) (len := 826) zr_144_13 rfl rfl (by omega) (by omega) ?_
                      intro x85 ex85
                      have bx85 := ib_70_m4 hIm80 (k := (((90 + (6 * i79)) + 4)).toNat) (by omega)
                      rw [← ex85] at bx85
                      clear ex85
                      refine zw_R zr_144_14 (by decide) zm_144 (v := (0, x85)) rfl ?_
                      rw [← hQ2]
                      show zW E (d - 1) 181 6 [(2, 69), (0, i79)] [(0, x85)] m80 Q1
                      refine zw_40_4 zr_181_6 ?_ ?_
                      · intro h86
                        refine zw_push zr_181_22 ?_
                        refine zw_R zr_181_23 (by decide) zm_181 (v := (0, 0)) (zRetB (by omega)) ?_
                        rw [← hQ1]
                        show zW E (d) 187 72 [(2, 69), (0, i10), (0, i79), (9, 0)] [(0, 0)] m80 Q
                        refine zw_40_1 zr_187_72 ?_ ?_
                        · intro h87
                          refine zw_15 (c := 1) (L' := [(2, 69), (0, i10), (0, (i79 + 1)), (9, 0)]) zr_187_101 rfl (by decide) (by omega) rfl ?_
                          refine zw_42 zr_187_104 ?_
                          exact zw_less (L := [(2, 69), (0, i10), (0, (i79 + 1)), (9, 0)]) ⟨Or.inr rfl, Or.inr rfl, Or.inr rfl, Or.inl rfl, trivial⟩ (ihlp62_81 ((i79 + 1)) m80 hIm80 hFm80  km80_70_823 (by omega) (by omega)  (by omega))
                        · intro h88; omega
                      · intro h89
                        refine zw_7 zr_181_9 rfl ?_
                        refine zw_3 zr_181_10 rfl ?_
                        refine zw_push zr_181_11 ?_
                        refine zw_C zr_181_12 (Or.inl rfl) zm_144 rfl rfl ⟨Nat.le_of_ble_eq_true rfl, Nat.le_of_ble_eq_true rfl, Nat.le_of_ble_eq_true rfl, rfl, by decide⟩ (by omega) (P := (fun v m' => zW E (d - 1) 181 15 [(2, 69), (0, i79)] (if v.1 = 9 then [] else v :: []) m' Q1)) ?_ (fun _ _ h => h)
                        generalize hQ2 : (fun v m' => zW E (d - 1) 181 15 [(2, 69), (0, i79)] (if v.1 = 9 then [] else v :: []) m' Q1) = Q2
                        show zW E (d - 1 - 1) 144 0 [(2, 69), (0, i79), (0, 5)] [] m80 Q2
                        refine zw_7 zr_144_0 rfl ?_
                        refine zw_46r (s := 70) zr_144_1 rfl rfl rfl rfl ?_
                        refine zw_push zr_144_4 ?_
                        refine zw_push zr_144_6 ?_
                        refine zw_3 zr_144_8 rfl ?_
                        refine zw_18 zr_144_9 (by omega) ?_
                        refine zw_16 zr_144_10 (by omega) ?_
                        refine zw_3 zr_144_11 rfl ?_
                        refine zw_16 zr_144_12 (by omega) ?_
                        refine zw_48 (c := 70) (len := 826) zr_144_13 rfl rfl (by omega) (by omega) ?_
                        intro x90 ex90
                        have bx90 := ib_70_m5 hIm80 (k := (((90 + (6 * i79)) + 5)).toNat) (by omega)
                        rw [← ex90] at bx90
                        clear ex90
                        refine zw_R zr_144_14 (by decide) zm_144 (v := (0, x90)) rfl ?_
                        rw [← hQ2]
                        show zW E (d - 1) 181 15 [(2, 69), (0, i79)] [(0, x90)] m80 Q1
                        refine zw_40_4 zr_181_15 ?_ ?_
                        · intro h91
                          refine zw_push zr_181_22 ?_
                          refine zw_R zr_181_23 (by decide) zm_181 (v := (0, 0)) (zRetB (by omega)) ?_
                          rw [← hQ1]
                          show zW E (d) 187 72 [(2, 69), (0, i10), (0, i79), (9, 0)] [(0, 0)] m80 Q
                          refine zw_40_1 zr_187_72 ?_ ?_
                          · intro h92
                            refine zw_15 (c := 1) (L' := [(2, 69), (0, i10), (0, (i79 + 1)), (9, 0)]) zr_187_101 rfl (by decide) (by omega) rfl ?_
                            refine zw_42 zr_187_104 ?_
                            exact zw_less (L := [(2, 69), (0, i10), (0, (i79 + 1)), (9, 0)]) ⟨Or.inr rfl, Or.inr rfl, Or.inr rfl, Or.inl rfl, trivial⟩ (ihlp62_81 ((i79 + 1)) m80 hIm80 hFm80  km80_70_823 (by omega) (by omega)  (by omega))
                          · intro h93; omega
                        · intro h94
                          refine zw_push zr_181_18 ?_
                          refine zw_42 zr_181_19 ?_
                          refine zw_R zr_181_23 (by decide) zm_181 (v := (0, 1)) (zRetB (by omega)) ?_
                          rw [← hQ1]
                          show zW E (d) 187 72 [(2, 69), (0, i10), (0, i79), (9, 0)] [(0, 1)] m80 Q
                          refine zw_40_1 zr_187_72 ?_ ?_
                          · intro h95; omega
                          · intro h96
                            refine zw_7 zr_187_75 rfl ?_
                            refine zw_3 zr_187_76 rfl ?_
                            refine zw_C zr_187_77 (Or.inl rfl) zm_181 rfl rfl ⟨Nat.le_of_ble_eq_true rfl, Nat.le_of_ble_eq_true rfl, Nat.le_of_ble_eq_true rfl, rfl, by decide⟩ (by omega) (P := (fun v m' => zW E (d) 187 80 [(2, 69), (0, i10), (0, i79), (9, 0)] (if v.1 = 9 then [] else v :: []) m' Q)) ?_ (fun _ _ h => h)
                            generalize hQ1 : (fun v m' => zW E (d) 187 80 [(2, 69), (0, i10), (0, i79), (9, 0)] (if v.1 = 9 then [] else v :: []) m' Q) = Q1
                            show zW E (d - 1) 181 0 [(2, 69), (0, i10)] [] m80 Q1
                            refine zw_7 zr_181_0 rfl ?_
                            refine zw_3 zr_181_1 rfl ?_
                            refine zw_push zr_181_2 ?_
                            refine zw_C zr_181_3 (Or.inl rfl) zm_144 rfl rfl ⟨Nat.le_of_ble_eq_true rfl, Nat.le_of_ble_eq_true rfl, Nat.le_of_ble_eq_true rfl, rfl, by decide⟩ (by omega) (P := (fun v m' => zW E (d - 1) 181 6 [(2, 69), (0, i10)] (if v.1 = 9 then [] else v :: []) m' Q1)) ?_ (fun _ _ h => h)
                            generalize hQ2 : (fun v m' => zW E (d - 1) 181 6 [(2, 69), (0, i10)] (if v.1 = 9 then [] else v :: []) m' Q1) = Q2
                            show zW E (d - 1 - 1) 144 0 [(2, 69), (0, i10), (0, 4)] [] m80 Q2
                            refine zw_7 zr_144_0 rfl ?_
                            refine zw_46r (s := 70) zr_144_1 rfl rfl rfl rfl ?_
                            refine zw_push zr_144_4 ?_
                            refine zw_push zr_144_6 ?_
                            refine zw_3 zr_144_8 rfl ?_
                            refine zw_18 zr_144_9 (by omega) ?_
                            refine zw_16 zr_144_10 (by omega) ?_
                            refine zw_3 zr_144_11 rfl ?_
                            refine zw_16 zr_144_12 (by omega) ?_
                            refine zw_48 (c := 70) (len := 826) zr_144_13 rfl rfl (by omega) (by omega) ?_
                            intro x97 ex97
                            have bx97 := ib_70_m4 hIm80 (k := (((90 + (6 * i10)) + 4)).toNat) (by omega)
                            rw [← ex97] at bx97
                            clear ex97
                            refine zw_R zr_144_14 (by decide) zm_144 (v := (0, x97)) rfl ?_
                            rw [← hQ2]
                            show zW E (d - 1) 181 6 [(2, 69), (0, i10)] [(0, x97)] m80 Q1
                            refine zw_40_4 zr_181_6 ?_ ?_
                            · intro h98
                              refine zw_push zr_181_22 ?_
                              refine zw_R zr_181_23 (by decide) zm_181 (v := (0, 0)) (zRetB (by omega)) ?_
                              rw [← hQ1]
                              show zW E (d) 187 80 [(2, 69), (0, i10), (0, i79), (9, 0)] [(0, 0)] m80 Q
                              refine zw_40_1 zr_187_80 ?_ ?_
                              · intro h99
                                refine zw_15 (c := 1) (L' := [(2, 69), (0, i10), (0, (i79 + 1)), (9, 0)]) zr_187_101 rfl (by decide) (by omega) rfl ?_
                                refine zw_42 zr_187_104 ?_
                                exact zw_less (L := [(2, 69), (0, i10), (0, (i79 + 1)), (9, 0)]) ⟨Or.inr rfl, Or.inr rfl, Or.inr rfl, Or.inl rfl, trivial⟩ (ihlp62_81 ((i79 + 1)) m80 hIm80 hFm80  km80_70_823 (by omega) (by omega)  (by omega))
                              · intro h100; omega
                            · intro h101
                              refine zw_7 zr_181_9 rfl ?_
                              refine zw_3 zr_181_10 rfl ?_
                              refine zw_push zr_181_11 ?_
                              refine zw_C zr_181_12 (Or.inl rfl) zm_144 rfl rfl ⟨Nat.le_of_ble_eq_true rfl, Nat.le_of_ble_eq_true rfl, Nat.le_of_ble_eq_true rfl, rfl, by decide⟩ (by omega) (P := (fun v m' => zW E (d - 1) 181 15 [(2, 69), (0, i10)] (if v.1 = 9 then [] else v :: []) m' Q1)) ?_ (fun _ _ h => h)
                              generalize hQ2 : (fun v m' => zW E (d - 1) 181 15 [(2, 69), (0, i10)] (if v.1 = 9 then [] else v :: []) m' Q1) = Q2
                              show zW E (d - 1 - 1) 144 0 [(2, 69), (0, i10), (0, 5)] [] m80 Q2
                              refine zw_7 zr_144_0 rfl ?_
                              refine zw_46r (s := 70) zr_144_1 rfl rfl rfl rfl ?_
                              refine zw_push zr_144_4 ?_
                              refine zw_push zr_144_6 ?_
                              refine zw_3 zr_144_8 rfl ?_
                              refine zw_18 zr_144_9 (by omega) ?_
                              refine zw_16 zr_144_10 (by omega) ?_
                              refine zw_3 zr_144_11 rfl ?_
                              refine zw_16 zr_144_12 (by omega) ?_
                              refine zw_48 (c := 70) (len := 826) zr_144_13 rfl rfl (by omega) (by omega) ?_
                              intro x102 ex102
                              have bx102 := ib_70_m5 hIm80 (k := (((90 + (6 * i10)) + 5)).toNat) (by omega)
                              rw [← ex102] at bx102
                              clear ex102
                              refine zw_R zr_144_14 (by decide) zm_144 (v := (0, x102)) rfl ?_
                              rw [← hQ2]
                              show zW E (d - 1) 181 15 [(2, 69), (0, i10)] [(0, x102)] m80 Q1
                              refine zw_40_4 zr_181_15 ?_ ?_
                              · intro h103
                                refine zw_push zr_181_22 ?_
                                refine zw_R zr_181_23 (by decide) zm_181 (v := (0, 0)) (zRetB (by omega)) ?_
                                rw [← hQ1]
                                show zW E (d) 187 80 [(2, 69), (0, i10), (0, i79), (9, 0)] [(0, 0)] m80 Q
                                refine zw_40_1 zr_187_80 ?_ ?_
                                · intro h104
                                  refine zw_15 (c := 1) (L' := [(2, 69), (0, i10), (0, (i79 + 1)), (9, 0)]) zr_187_101 rfl (by decide) (by omega) rfl ?_
                                  refine zw_42 zr_187_104 ?_
                                  exact zw_less (L := [(2, 69), (0, i10), (0, (i79 + 1)), (9, 0)]) ⟨Or.inr rfl, Or.inr rfl, Or.inr rfl, Or.inl rfl, trivial⟩ (ihlp62_81 ((i79 + 1)) m80 hIm80 hFm80  km80_70_823 (by omega) (by omega)  (by omega))
                                · intro h105; omega
                              · intro h106
                                refine zw_push zr_181_18 ?_
                                refine zw_42 zr_181_19 ?_
                                refine zw_R zr_181_23 (by decide) zm_181 (v := (0, 1)) (zRetB (by omega)) ?_
                                rw [← hQ1]
                                show zW E (d) 187 80 [(2, 69), (0, i10), (0, i79), (9, 0)] [(0, 1)] m80 Q
                                refine zw_40_1 zr_187_80 ?_ ?_
                                · intro h107; omega
                                · intro h108
                                  refine zw_7 zr_187_83 rfl ?_
                                  refine zw_3 zr_187_84 rfl ?_
                                  refine zw_3 zr_187_85 rfl ?_
                                  refine zw_push zr_187_86 ?_
                                  refine zw_C zr_187_87 (Or.inl rfl) zm_184 rfl rfl ⟨Nat.le_of_ble_eq_true rfl, Nat.le_of_ble_eq_true rfl, Nat.le_of_ble_eq_true rfl, rfl, by decide⟩ (by omega) (th_184 (d := d - 1) (by omega) hIm80 (a0 := i79) (a1 := i10) (a2 := (-1))      (by omega) (by omega) (by omega) ) ?_
                                  rintro _ m109 ⟨r110, rfl, hr110a, hr110b, hIm109, gm109⟩
                                  have hFm109 : zFr W_187 m0 m109 := hFm80.trans gm109 rfl
                                  have km109_70_823 : m109 70 823 = f8 := (gm109 70 823 rfl).trans km80_70_823
                                  show zW E (d) 187 90 [(2, 69), (0, i10), (0, i79), (9, 0)] [(0, r110)] m109 Q
                                  refine zw_40_1 zr_187_90 ?_ ?_
                                  · intro h111
                                    refine zw_15 (c := 1) (L' := [(2, 69), (0, i10), (0, (i79 + 1)), (9, 0)]) zr_187_101 rfl (by decide) (by omega) rfl ?_
                                    refine zw_42 zr_187_104 ?_
                                    exact zw_less (L := [(2, 69), (0, i10), (0, (i79 + 1)), (9, 0)]) ⟨Or.inr rfl, Or.inr rfl, Or.inr rfl, Or.inl rfl, trivial⟩ (ihlp62_81 ((i79 + 1)) m109 hIm109 hFm109  km109_70_823 (by omega) (by omega)  (by omega))
                                  · intro h112
                                    refine zw_push zr_187_93 ?_
                                    refine zw_3 zr_187_94 rfl ?_
                                    refine zw_33p zr_187_95 (by omega) ?_
                                    intro x113 ex113 hx113a hx113b
                                    refine zw_push zr_187_96 ?_
                                    refine zw_3 zr_187_97 rfl ?_
                                    refine zw_33p zr_187_98 (by omega) ?_
                                    intro x114 ex114 hx114a hx114b
                                    refine zw_31h zr_187_99 ?_
                                    intro x115 hx115a hx115b
                                    refine zw_R zr_187_100 (by decide) zm_187 (v := (1, x115)) rfl ?_
                                    rw [← hQ]; exact ⟨_, rfl, by omega, by omega, hIm109, hFm109⟩
                exact lp62_81 _ (0) m11 hIm11 hFm11  km11_70_823 (by omega) (by omega)  (Nat.lt_succ_self _)
          exact lp52_12 _ (0) m5 hIm5 hFm5  ef8 (by omega) (by omega)  (Nat.lt_succ_self _)
        · intro h116
          refine zw_7 zr_187_22 rfl ?_
          refine zw_3 zr_187_23 rfl ?_
          refine zw_C zr_187_24 (Or.inl rfl) zm_181 rfl rfl ⟨Nat.le_of_ble_eq_true rfl, Nat.le_of_ble_eq_true rfl, Nat.le_of_ble_eq_true rfl, rfl, by decide⟩ (by omega) (P := (fun v m' => zW E (d) 187 27 [(2, 69), (0, i4), (9, 0), (9, 0)] (if v.1 = 9 then [] else v :: []) m' Q)) ?_ (fun _ _ h => h)
          generalize hQ1 : (fun v m' => zW E (d) 187 27 [(2, 69), (0, i4), (9, 0), (9, 0)] (if v.1 = 9 then [] else v :: []) m' Q) = Q1
          show zW E (d - 1) 181 0 [(2, 69), (0, i4)] [] m5 Q1
          refine zw_7 zr_181_0 rfl ?_
          refine zw_3 zr_181_1 rfl ?_
          refine zw_push zr_181_2 ?_
          refine zw_C zr_181_3 (Or.inl rfl) zm_144 rfl rfl ⟨Nat.le_of_ble_eq_true rfl, Nat.le_of_ble_eq_true rfl, Nat.le_of_ble_eq_true rfl, rfl, by decide⟩ (by omega) (P := (fun v m' => zW E (d - 1) 181 6 [(2, 69), (0, i4)] (if v.1 = 9 then [] else v :: []) m' Q1)) ?_ (fun _ _ h => h)
          generalize hQ2 : (fun v m' => zW E (d - 1) 181 6 [(2, 69), (0, i4)] (if v.1 = 9 then [] else v :: []) m' Q1) = Q2
          show zW E (d - 1 - 1) 144 0 [(2, 69), (0, i4), (0, 4)] [] m5 Q2
          refine zw_7 zr_144_0 rfl ?_
          refine zw_46r (s := 70) zr_144_1 rfl rfl rfl rfl ?_
          refine zw_push zr_144_4 ?_
          refine zw_push zr_144_6 ?_
          refine zw_3 zr_144_8 rfl ?_
          refine zw_18 zr_144_9 (by omega) ?_
          refine zw_16 zr_144_10 (by omega) ?_
          refine zw_3 zr_144_11 rfl ?_
          refine zw_16 zr_144_12 (by omega) ?_
          refine zw_48 (c := 70) (len := 826) zr_144_13 rfl rfl (by omega) (by omega) ?_
          intro x117 ex117
          have bx117 := ib_70_m4 hIm5 (k := (((90 + (6 * i4)) + 4)).toNat) (by omega)
          rw [← ex117] at bx117
          clear ex117
          refine zw_R zr_144_14 (by decide) zm_144 (v := (0, x117)) rfl ?_
          rw [← hQ2]
          show zW E (d - 1) 181 6 [(2, 69), (0, i4)] [(0, x117)] m5 Q1
          refine zw_40_4 zr_181_6 ?_ ?_
          · intro h118
            refine zw_push zr_181_22 ?_
            refine zw_R zr_181_23 (by decide) zm_181 (v := (0, 0)) (zRetB (by omega)) ?_
            rw [← hQ1]
            show zW E (d) 187 27 [(2, 69), (0, i4), (9, 0), (9, 0)] [(0, 0)] m5 Q
            refine zw_40_1 zr_187_27 ?_ ?_
            · intro h119
              refine zw_15 (c := 1) (L' := [(2, 69), (0, (i4 + 1)), (9, 0), (9, 0)]) zr_187_44 rfl (by decide) (by omega) rfl ?_
              refine zw_42 zr_187_47 ?_
              exact zw_less (L := [(2, 69), (0, (i4 + 1)), (9, 0), (9, 0)]) ⟨Or.inr rfl, Or.inr rfl, Or.inl rfl, Or.inl rfl, trivial⟩ (ihlp14_6 ((i4 + 1)) m5 hIm5 hFm5   (by omega) (by omega)  (by omega))
            · intro h120; omega
          · intro h121
            refine zw_7 zr_181_9 rfl ?_
            refine zw_3 zr_181_10 rfl ?_
            refine zw_push zr_181_11 ?_
            refine zw_C zr_181_12 (Or.inl rfl) zm_144 rfl rfl ⟨Nat.le_of_ble_eq_true rfl, Nat.le_of_ble_eq_true rfl, Nat.le_of_ble_eq_true rfl, rfl, by decide⟩ (by omega) (P := (fun v m' => zW E (d - 1) 181 15 [(2, 69), (0, i4)] (if v.1 = 9 then [] else v :: []) m' Q1)) ?_ (fun _ _ h => h)
            generalize hQ2 : (fun v m' => zW E (d - 1) 181 15 [(2, 69), (0, i4)] (if v.1 = 9 then [] else v :: []) m' Q1) = Q2
            show zW E (d - 1 - 1) 144 0 [(2, 69), (0, i4), (0, 5)] [] m5 Q2
            refine zw_7 zr_144_0 rfl ?_
            refine zw_46r (s := 70) zr_144_1 rfl rfl rfl rfl ?_
            refine zw_push zr_144_4 ?_
            refine zw_push zr_144_6 ?_
            refine zw_3 zr_144_8 rfl ?_
            refine zw_18 zr_144_9 (by omega) ?_
            refine zw_16 zr_144_10 (by omega) ?_
            refine zw_3 zr_144_11 rfl ?_
            refine zw_16 zr_144_12 (by omega) ?_
            refine zw_48 (c := 70) (len := 826) zr_144_13 rfl rfl (by omega) (by omega) ?_
            intro x122 ex122
            have bx122 := ib_70_m5 hIm5 (k := (((90 + (6 * i4)) + 5)).toNat) (by omega)
            rw [← ex122] at bx122
            clear ex122
            refine zw_R zr_144_14 (by decide) zm_144 (v := (0, x122)) rfl ?_
            rw [← hQ2]
            show zW E (d - 1) 181 15 [(2, 69), (0, i4)] [(0, x122)] m5 Q1
            refine zw_40_4 zr_181_15 ?_ ?_
            · intro h123
              refine zw_push zr_181_22 ?_
              refine zw_R zr_181_23 (by decide) zm_181 (v := (0, 0)) (zRetB (by omega)) ?_
              rw [← hQ1]
              show zW E (d) 187 27 [(2, 69), (0, i4), (9, 0), (9, 0)] [(0, 0)] m5 Q
              refine zw_40_1 zr_187_27 ?_ ?_
              · intro h124
                refine zw_15 (c := 1) (L' := [(2, 69), (0, (i4 + 1)), (9, 0), (9, 0)]) zr_187_44 rfl (by decide) (by omega) rfl ?_
                refine zw_42 zr_187_47 ?_
                exact zw_less (L := [(2, 69), (0, (i4 + 1)), (9, 0), (9, 0)]) ⟨Or.inr rfl, Or.inr rfl, Or.inl rfl, Or.inl rfl, trivial⟩ (ihlp14_6 ((i4 + 1)) m5 hIm5 hFm5   (by omega) (by omega)  (by omega))
              · intro h125; omega
            · intro h126
              refine zw_push zr_181_18 ?_
              refine zw_42 zr_181_19 ?_
              refine zw_R zr_181_23 (by decide) zm_181 (v := (0, 1)) (zRetB (by omega)) ?_
              rw [← hQ1]
              show zW E (d) 187 27 [(2, 69), (0, i4), (9, 0), (9, 0)] [(0, 1)] m5 Q
              refine zw_40_1 zr_187_27 ?_ ?_
              · intro h127; omega
              · intro h128
                refine zw_7 zr_187_30 rfl ?_
                refine zw_3 zr_187_31 rfl ?_
                refine zw_push zr_187_32 ?_
                refine zw_push zr_187_33 ?_
                refine zw_C zr_187_34 (Or.inl rfl) zm_184 rfl rfl ⟨Nat.le_of_ble_eq_true rfl, Nat.le_of_ble_eq_true rfl, Nat.le_of_ble_eq_true rfl, rfl, by decide⟩ (by omega) (th_184 (d := d - 1) (by omega) hIm5 (a0 := i4) (a1 := (-1)) (a2 := (-1))      (by omega) (by omega) (by omega) ) ?_
                rintro _ m129 ⟨r130, rfl, hr130a, hr130b, hIm129, gm129⟩
                have hFm129 : zFr W_187 m0 m129 := hFm5.trans gm129 rfl
                have km129_70_823 : m129 70 823 = f8 := (gm129 70 823 rfl).trans ef8
                show zW E (d) 187 37 [(2, 69), (0, i4), (9, 0), (9, 0)] [(0, r130)] m129 Q
                refine zw_40_1 zr_187_37 ?_ ?_
                · intro h131
                  refine zw_15 (c := 1) (L' := [(2, 69), (0, (i4 + 1)), (9, 0), (9, 0)]) zr_187_44 rfl (by decide) (by omega) rfl ?_
                  refine zw_42 zr_187_47 ?_
                  exact zw_less (L := [(2, 69), (0, (i4 + 1)), (9, 0), (9, 0)]) ⟨Or.inr rfl, Or.inr rfl, Or.inl rfl, Or.inl rfl, trivial⟩ (ihlp14_6 ((i4 + 1)) m129 hIm129 hFm129   (by omega) (by omega)  (by omega))
                · intro h132
                  refine zw_push zr_187_40 ?_
                  refine zw_3 zr_187_41 rfl ?_
                  refine zw_33p zr_187_42 (by omega) ?_
                  intro x133 ex133 hx133a hx133b
                  refine zw_R zr_187_43 (by decide) zm_187 (v := (1, x133)) rfl ?_
                  rw [← hQ]; exact ⟨_, rfl, by omega, by omega, hIm129, hFm129⟩
    exact lp14_6 _ (0) m1 hIm1 hFm1   (by omega) (by omega)  (Nat.lt_succ_self _)
  · intro h134
    refine zw_push zr_187_10 ?_
    refine zw_R zr_187_11 (by decide) zm_187 (v := (1, 0)) rfl ?_
    rw [← hQ]; exact ⟨_, rfl, by omega, by omega, hIm1, hFm1⟩

set_option maxHeartbeats 8000000 in
theorem th_69 {E : zE} {d : Nat} {m0 : zM} (hd : 1 ≤ d) (hI0 : zInv m0) : zC E d 69 [(2, 60)] m0 (fun v m' => ∃ r : Int, v = (0, r) ∧ (-1) ≤ r ∧ r ≤ 9 ∧ m0 = m') := by
  generalize hQ : (fun (v : zV) (m' : zM) => ∃ r : Int, v = (0, r) ∧ (-1) ≤ r ∧ r ≤ 9 ∧ m0 = m') = Q
  show zW E d 69 0 [(2, 60), (9, 0)] [] m0 Q
  refine zw_push zr_69_0 ?_
  refine zw_9 (L' := [(2, 60), (0, 0)]) zr_69_1 (Nat.le_of_ble_eq_true rfl) rfl ?_
  have lp2_2 : ∀ (nlp2_2 : Nat) (i1 : Int), 0 ≤ i1 → i1 ≤ 10 → (10 - i1).toNat < nlp2_2 → zW E (d) 69 2 [(2, 60), (0, i1)] [] m0 Q := by
    intro nlp2_2
    induction nlp2_2 with
    | zero =>
      intros
      exact absurd (by assumption : _ < 0) (Nat.not_lt_zero _)
    | succ nlp2_2 ihlp2_2 =>
      intro i1 li1 ui1 hmlp2_2
      refine zw_3 zr_69_2 rfl ?_
      refine zw_7 zr_69_3 rfl ?_
      refine zw_46r (s := 1) zr_69_4 rfl rfl rfl rfl ?_
      obtain ⟨f4, ef4⟩ : ∃ v, m0 1 0 = v := ⟨_, rfl⟩
      have bf4 := ib_1_0 hI0
      rw [ef4] at bf4
      refine zw_46i zr_69_7 ef4 rfl rfl rfl ?_
      refine zw_41_3 zr_69_10 ?_ ?_
      · intro h5
        refine zw_push zr_69_31 ?_
        refine zw_R zr_69_32 (by decide) zm_69 (v := (0, (-1))) rfl ?_
        rw [← hQ]; exact ⟨_, rfl, by omega, by omega, rfl⟩
      · intro h6
        refine zw_7 zr_69_13 rfl ?_
        refine zw_46r (s := 62) zr_69_14 rfl rfl rfl rfl ?_
        refine zw_3 zr_69_17 rfl ?_
        refine zw_48 (c := 62) (len := 10) zr_69_18 rfl rfl (by omega) (by omega) ?_
        intro x7 ex7
        have bx7 := hI0.ra (c := 62) (len := 10) (k := (i1).toNat) rfl (by omega)
        rw [← ex7] at bx7
        clear ex7
        refine zw_push zr_69_19 ?_
        refine zw_41_1 zr_69_20 ?_ ?_
        · intro h8
          refine zw_15 (c := 1) (L' := [(2, 60), (0, (i1 + 1))]) zr_69_25 rfl (by decide) (by omega) rfl ?_
          refine zw_42 zr_69_28 ?_
          exact zw_less (L := [(2, 60), (0, (i1 + 1))]) ⟨Or.inr rfl, Or.inr rfl, trivial⟩ (ihlp2_2 ((i1 + 1))  (by omega) (by omega)  (by omega))
        · intro h9
          refine zw_3 zr_69_23 rfl ?_
          refine zw_R zr_69_24 (by decide) zm_69 (v := (0, i1)) rfl ?_
          rw [← hQ]; exact ⟨_, rfl, by omega, by omega, rfl⟩
  exact lp2_2 _ (0)  (by omega) (by omega)  (Nat.lt_succ_self _)

abbrev W_71 : List (Nat × Nat) := [(61, 1000), (62, 1000)]
set_option maxHeartbeats 8000000 in
theorem th_71 {E : zE} {d : Nat} {m0 : zM} {a0 : Int} (hd : 3 ≤ d) (hI0 : zInv m0) (ha0 : 0 ≤ a0 ∧ a0 ≤ 9) : zC E d 71 [(2, 60), (0, a0)] m0 (fun v m' => ∃ r : Int, v = (0, r) ∧ (-1) ≤ r ∧ r ≤ 9 ∧ zInv m' ∧ zFr W_71 m0 m') := by
  have hF0 : zFr W_71 m0 m0 := zFr.rfl
  generalize hQ : (fun (v : zV) (m' : zM) => ∃ r : Int, v = (0, r) ∧ (-1) ≤ r ∧ r ≤ 9 ∧ zInv m' ∧ zFr W_71 m0 m') = Q
  show zW E d 71 0 [(2, 60), (0, a0)] [] m0 Q
  refine zw_7 zr_71_0 rfl ?_
  refine zw_7 zr_71_1 rfl ?_
  refine zw_46r (s := 1) zr_71_2 rfl rfl rfl rfl ?_
  refine zw_C zr_71_5 (Or.inl rfl) zm_53 rfl rfl ⟨Nat.le_of_ble_eq_true rfl, Nat.le_of_ble_eq_true rfl, Nat.le_of_ble_eq_true rfl, rfl, by decide⟩ (by omega) (th_53 (d := d - 1) (by omega) hI0        ) ?_
  rintro _ _ ⟨r1, rfl, hr1a, hr1b, rfl⟩
  show zW E (d) 71 8 [(2, 60), (0, a0)] [(1, r1), (2, 60)] m0 Q
  refine zw_C zr_71_8 (Or.inl rfl) zm_66 rfl rfl ⟨Nat.le_of_ble_eq_true rfl, Nat.le_of_ble_eq_true rfl, Nat.le_of_ble_eq_true rfl, rfl, by decide⟩ (by omega) (th_66 (d := d - 1) (by omega) hI0 (a0 := r1)      (by omega) ) ?_
  rintro _ m2 ⟨rfl, hIm2, gm2⟩
  have hFm2 : zFr W_71 m0 m2 := hF0.trans gm2 rfl
  show zW E (d) 71 11 [(2, 60), (0, a0)] [] m2 Q
  refine zw_7 zr_71_11 rfl ?_
  refine zw_3 zr_71_12 rfl ?_
  refine zw_C zr_71_13 (Or.inl rfl) zm_67 rfl rfl ⟨Nat.le_of_ble_eq_true rfl, Nat.le_of_ble_eq_true rfl, Nat.le_of_ble_eq_true rfl, rfl, by decide⟩ (by omega) (th_67 (d := d - 1) (by omega) hIm2 (a0 := a0)      (by omega) ) ?_
  rintro _ m3 ⟨rfl, hIm3, gm3⟩
  have hFm3 : zFr W_71 m0 m3 := hFm2.trans gm3 rfl
  show zW E (d) 71 16 [(2, 60), (0, a0)] [] m3 Q
  refine zw_7 zr_71_16 rfl ?_
  refine zw_C zr_71_17 (Or.inl rfl) zm_69 rfl rfl ⟨Nat.le_of_ble_eq_true rfl, Nat.le_of_ble_eq_true rfl, Nat.le_of_ble_eq_true rfl, rfl, by decide⟩ (by omega) (th_69 (d := d - 1) (by omega) hIm3        ) ?_
  rintro _ _ ⟨r4, rfl, hr4a, hr4b, rfl⟩
  show zW E (d) 71 20 [(2, 60), (0, a0)] [(0, r4)] m3 Q
  refine zw_R zr_71_20 (by decide) zm_71 (v := (0, r4)) rfl ?_
  rw [← hQ]; exact ⟨_, rfl, by omega, by omega, hIm3, hFm3⟩

abbrev W_70 : List (Nat × Nat) := [(61, 1000), (62, 1000)]
set_option maxHeartbeats 8000000 in
theorem th_70 {E : zE} {d : Nat} {m0 : zM} (hd : 3 ≤ d) (hI0 : zInv m0) : zC E d 70 [(2, 60)] m0 (fun v m' => ∃ r : Int, v = (0, r) ∧ (-2147483648) ≤ r ∧ r ≤ 2147483647 ∧ zInv m' ∧ zFr W_70 m0 m') := by
  have hF0 : zFr W_70 m0 m0 := zFr.rfl
  generalize hQ : (fun (v : zV) (m' : zM) => ∃ r : Int, v = (0, r) ∧ (-2147483648) ≤ r ∧ r ≤ 2147483647 ∧ zInv m' ∧ zFr W_70 m0 m') = Q
  show zW E d 70 0 [(2, 60), (9, 0), (9, 0)] [] m0 Q
  refine zw_push zr_70_0 ?_
  refine zw_9 (L' := [(2, 60), (0, 0), (9, 0)]) zr_70_1 (Nat.le_of_ble_eq_true rfl) rfl ?_
  refine zw_7 zr_70_2 rfl ?_
  refine zw_7 zr_70_3 rfl ?_
  refine zw_46r (s := 1) zr_70_4 rfl rfl rfl rfl ?_
  refine zw_C zr_70_7 (Or.inl rfl) zm_53 rfl rfl ⟨Nat.le_of_ble_eq_true rfl, Nat.le_of_ble_eq_true rfl, Nat.le_of_ble_eq_true rfl, rfl, by decide⟩ (by omega) (th_53 (d := d - 1) (by omega) hI0        ) ?_
  rintro _ _ ⟨r1, rfl, hr1a, hr1b, rfl⟩
  show zW E (d) 70 10 [(2, 60), (0, 0), (9, 0)] [(1, r1), (2, 60)] m0 Q
  refine zw_C zr_70_10 (Or.inl rfl) zm_66 rfl rfl ⟨Nat.le_of_ble_eq_true rfl, Nat.le_of_ble_eq_true rfl, Nat.le_of_ble_eq_true rfl, rfl, by decide⟩ (by omega) (th_66 (d := d - 1) (by omega) hI0 (a0 := r1)      (by omega) ) ?_
  rintro _ m2 ⟨rfl, hIm2, gm2⟩
  have hFm2 : zFr W_70 m0 m2 := hF0.trans gm2 rfl
  show zW E (d) 70 13 [(2, 60), (0, 0), (9, 0)] [] m2 Q
  refine zw_push zr_70_13 ?_
  refine zw_9 (L' := [(2, 60), (0, 0), (0, 0)]) zr_70_14 (Nat.le_of_ble_eq_true rfl) rfl ?_
  have lp15_6 : ∀ (nlp15_6 : Nat) (i3 i4 : Int) (m5 : zM), zInv m5 → zFr W_70 m0 m5 → (-2147483648) ≤ i3 → i3 ≤ 2147483647 → 0 ≤ i4 → i4 ≤ 10 → (10 - i4).toNat < nlp15_6 → zW E (d) 70 15 [(2, 60), (0, i3), (0, i4)] [] m5 Q := by
    intro nlp15_6
    induction nlp15_6 with
    | zero =>
      intros
      exact absurd (by assumption : _ < 0) (Nat.not_lt_zero _)
    | succ nlp15_6 ihlp15_6 =>
      intro i3 i4 m5 hIm5 hFm5 li3 ui3 li4 ui4 hmlp15_6
      refine zw_3 zr_70_15 rfl ?_
      refine zw_7 zr_70_16 rfl ?_
      refine zw_46r (s := 1) zr_70_17 rfl rfl rfl rfl ?_
      obtain ⟨f8, ef8⟩ : ∃ v, m5 1 0 = v := ⟨_, rfl⟩
      have bf8 := ib_1_0 hIm5
      rw [ef8] at bf8
      refine zw_46i zr_70_20 ef8 rfl rfl rfl ?_
      refine zw_41_3 zr_70_23 ?_ ?_
      · intro h9
        refine zw_3 zr_70_48 rfl ?_
        refine zw_R zr_70_49 (by decide) zm_70 (v := (0, i3)) rfl ?_
        rw [← hQ]; exact ⟨_, rfl, by omega, by omega, hIm5, hFm5⟩
      · intro h10
        refine zw_7 zr_70_26 rfl ?_
        refine zw_3 zr_70_27 rfl ?_
        refine zw_C zr_70_28 (Or.inl rfl) zm_67 rfl rfl ⟨Nat.le_of_ble_eq_true rfl, Nat.le_of_ble_eq_true rfl, Nat.le_of_ble_eq_true rfl, rfl, by decide⟩ (by omega) (th_67 (d := d - 1) (by omega) hIm5 (a0 := i4)      (by omega) ) ?_
        rintro _ m11 ⟨rfl, hIm11, gm11⟩
        have hFm11 : zFr W_70 m0 m11 := hFm5.trans gm11 rfl
        have km11_1_0 : m11 1 0 = f8 := (gm11 1 0 rfl).trans ef8
        show zW E (d) 70 31 [(2, 60), (0, i3), (0, i4)] [] m11 Q
        refine zw_7 zr_70_31 rfl ?_
        refine zw_C zr_70_32 (Or.inl rfl) zm_69 rfl rfl ⟨Nat.le_of_ble_eq_true rfl, Nat.le_of_ble_eq_true rfl, Nat.le_of_ble_eq_true rfl, rfl, by decide⟩ (by omega) (th_69 (d := d - 1) (by omega) hIm11        ) ?_
        rintro _ _ ⟨r12, rfl, hr12a, hr12b, rfl⟩
        show zW E (d) 70 35 [(2, 60), (0, i3), (0, i4)] [(0, r12)] m11 Q
        refine zw_3 zr_70_35 rfl ?_
        refine zw_41_4 zr_70_36 ?_ ?_
        · intro h13
          refine zw_15 (c := 1) (L' := [(2, 60), (0, i3), (0, (i4 + 1))]) zr_70_42 rfl (by decide) (by omega) rfl ?_
          refine zw_42 zr_70_45 ?_
          exact zw_less (L := [(2, 60), (0, i3), (0, (i4 + 1))]) ⟨Or.inr rfl, Or.inr rfl, Or.inr rfl, trivial⟩ (ihlp15_6 (i3) ((i4 + 1)) m11 hIm11 hFm11   (by omega) (by omega) (by omega) (by omega)  (by omega))
        · intro h14
          refine zw_15h (L' := fun r => [(2, 60), (0, r), (0, i4)]) zr_70_39 rfl (fun _ => rfl) ?_
          intro x15 hx15a hx15b
          show zW E (d) 70 42 [(2, 60), (0, x15), (0, i4)] [] m11 Q
          refine zw_15 (c := 1) (L' := [(2, 60), (0, x15), (0, (i4 + 1))]) zr_70_42 rfl (by decide) (by omega) rfl ?_
          refine zw_42 zr_70_45 ?_
          exact zw_less (L := [(2, 60), (0, x15), (0, (i4 + 1))]) ⟨Or.inr rfl, Or.inr rfl, Or.inr rfl, trivial⟩ (ihlp15_6 (x15) ((i4 + 1)) m11 hIm11 hFm11   (by omega) (by omega) (by omega) (by omega)  (by omega))
  exact lp15_6 _ (0) (0) m2 hIm2 hFm2   (by omega) (by omega) (by omega) (by omega)  (Nat.lt_succ_self _)

abbrev W_120 : List (Nat × Nat) := [(61, 1000), (62, 1000)]
set_option maxHeartbeats 8000000 in
theorem th_120 {E : zE} {d : Nat} {m0 : zM} {a0 : Int} (hd : 4 ≤ d) (hI0 : zInv m0) (ha0 : (-2147483648) ≤ a0 ∧ a0 ≤ 2147483647) : zC E d 120 [(2, 0), (0, a0)] m0 (fun v m' => ∃ r : Int, v = (0, r) ∧ (-2147483648) ≤ r ∧ r ≤ 2147483647 ∧ zInv m' ∧ zFr W_120 m0 m') := by
  have hF0 : zFr W_120 m0 m0 := zFr.rfl
  generalize hQ : (fun (v : zV) (m' : zM) => ∃ r : Int, v = (0, r) ∧ (-2147483648) ≤ r ∧ r ≤ 2147483647 ∧ zInv m' ∧ zFr W_120 m0 m') = Q
  show zW E d 120 0 [(2, 0), (0, a0)] [] m0 Q
  refine zw_3 zr_120_0 rfl ?_
  refine zw_push zr_120_1 ?_
  refine zw_41_4 zr_120_2 ?_ ?_
  · intro h1
    refine zw_7 zr_120_13 rfl ?_
    refine zw_46r (s := 1) zr_120_14 rfl rfl rfl rfl ?_
    refine zw_3 zr_120_17 rfl ?_
    refine zw_C zr_120_18 (Or.inl rfl) zm_49 rfl rfl ⟨Nat.le_of_ble_eq_true rfl, Nat.le_of_ble_eq_true rfl, Nat.le_of_ble_eq_true rfl, rfl, by decide⟩ (by omega) (P := (fun v m' => zW E (d) 120 21 [(2, 0), (0, a0)] (if v.1 = 9 then [] else v :: []) m' Q)) ?_ (fun _ _ h => h)
    generalize hQ1 : (fun v m' => zW E (d) 120 21 [(2, 0), (0, a0)] (if v.1 = 9 then [] else v :: []) m' Q) = Q1
    show zW E (d - 1) 49 0 [(2, 1), (0, a0)] [] m0 Q1
    refine zw_3 zr_49_0 rfl ?_
    refine zw_40_0 zr_49_1 ?_ ?_
    · intro h2
      refine zw_push zr_49_16 ?_
      refine zw_R zr_49_17 (by decide) zm_49 (v := (0, 0)) (zRetB (by omega)) ?_
      rw [← hQ1]
      show zW E (d) 120 21 [(2, 0), (0, a0)] [(0, 0)] m0 Q
      refine zw_40_1 zr_120_21 ?_ ?_
      · intro h3
        refine zw_push zr_120_35 ?_
        refine zw_R zr_120_37 (by decide) zm_120 (v := (0, (-2))) rfl ?_
        rw [← hQ]; exact ⟨_, rfl, by omega, by omega, hI0, hF0⟩
      · intro h4; omega
    · intro h5
      refine zw_3 zr_49_4 rfl ?_
      refine zw_7 zr_49_5 rfl ?_
      obtain ⟨f6, ef6⟩ : ∃ v, m0 1 0 = v := ⟨_, rfl⟩
      have bf6 := ib_1_0 hI0
      rw [ef6] at bf6
      refine zw_46i zr_49_6 ef6 rfl rfl rfl ?_
      refine zw_41_3 zr_49_9 ?_ ?_
      · intro h7
        refine zw_push zr_49_16 ?_
        refine zw_R zr_49_17 (by decide) zm_49 (v := (0, 0)) (zRetB (by omega)) ?_
        rw [← hQ1]
        show zW E (d) 120 21 [(2, 0), (0, a0)] [(0, 0)] m0 Q
        refine zw_40_1 zr_120_21 ?_ ?_
        · intro h8
          refine zw_push zr_120_35 ?_
          refine zw_R zr_120_37 (by decide) zm_120 (v := (0, (-2))) rfl ?_
          rw [← hQ]; exact ⟨_, rfl, by omega, by omega, hI0, hF0⟩
        · intro h9; omega
      · intro h10
        refine zw_push zr_49_12 ?_
        refine zw_42 zr_49_13 ?_
        refine zw_R zr_49_17 (by decide) zm_49 (v := (0, 1)) (zRetB (by omega)) ?_
        rw [← hQ1]
        show zW E (d) 120 21 [(2, 0), (0, a0)] [(0, 1)] m0 Q
        refine zw_40_1 zr_120_21 ?_ ?_
        · intro h11; omega
        · intro h12
          refine zw_7 zr_120_24 rfl ?_
          refine zw_46r (s := 60) zr_120_25 rfl rfl rfl rfl ?_
          refine zw_3 zr_120_28 rfl ?_
          refine zw_C zr_120_29 (Or.inl rfl) zm_71 rfl rfl ⟨Nat.le_of_ble_eq_true rfl, Nat.le_of_ble_eq_true rfl, Nat.le_of_ble_eq_true rfl, rfl, by decide⟩ (by omega) (th_71 (d := d - 1) (by omega) hI0 (a0 := a0)      (by omega) ) ?_
          rintro _ m13 ⟨r14, rfl, hr14a, hr14b, hIm13, gm13⟩
          have hFm13 : zFr W_120 m0 m13 := hF0.trans gm13 rfl
          have km13_1_0 : m13 1 0 = f6 := (gm13 1 0 rfl).trans ef6
          show zW E (d) 120 32 [(2, 0), (0, a0)] [(0, r14)] m13 Q
          refine zw_42 zr_120_32 ?_
          refine zw_R zr_120_37 (by decide) zm_120 (v := (0, r14)) rfl ?_
          rw [← hQ]; exact ⟨_, rfl, by omega, by omega, hIm13, hFm13⟩
  · intro h15
    refine zw_7 zr_120_5 rfl ?_
    refine zw_46r (s := 60) zr_120_6 rfl rfl rfl rfl ?_
    refine zw_C zr_120_9 (Or.inl rfl) zm_70 rfl rfl ⟨Nat.le_of_ble_eq_true rfl, Nat.le_of_ble_eq_true rfl, Nat.le_of_ble_eq_true rfl, rfl, by decide⟩ (by omega) (th_70 (d := d - 1) (by omega) hI0        ) ?_
    rintro _ m16 ⟨r17, rfl, hr17a, hr17b, hIm16, gm16⟩
    have hFm16 : zFr W_120 m0 m16 := hF0.trans gm16 rfl
    show zW E (d) 120 12 [(2, 0), (0, a0)] [(0, r17)] m16 Q
    refine zw_R zr_120_12 (by decide) zm_120 (v := (0, r17)) rfl ?_
    rw [← hQ]; exact ⟨_, rfl, by omega, by omega, hIm16, hFm16⟩

abbrev W_188 : List (Nat × Nat) := [(81, 1000)]
set_option maxHeartbeats 8000000 in
theorem th_188 {E : zE} {d : Nat} {m0 : zM} {a0 : Int} {a1 : Int} (hd : 3 ≤ d) (hI0 : zInv m0) (ha0 : 0 ≤ a0 ∧ a0 ≤ 9) (ha1 : (-1) ≤ a1 ∧ a1 ≤ 59) : zC E d 188 [(2, 69), (0, a0), (0, a1)] m0 (fun v m' => v = (9, 0) ∧ zInv m' ∧ zFr W_188 m0 m' ∧ (m' 81 a0.toNat ≤ 0)) := by
  have hF0 : zFr W_188 m0 m0 := zFr.rfl
  generalize hQ : (fun (v : zV) (m' : zM) => v = (9, 0) ∧ zInv m' ∧ zFr W_188 m0 m' ∧ (m' 81 a0.toNat ≤ 0)) = Q
  show zW E d 188 0 [(2, 69), (0, a0), (0, a1), (9, 0), (9, 0), (9, 0), (9, 0)] [] m0 Q
  refine zw_push zr_188_0 ?_
  refine zw_9 (L' := [(2, 69), (0, a0), (0, a1), (0, 0), (9, 0), (9, 0), (9, 0)]) zr_188_1 (Nat.le_of_ble_eq_true rfl) rfl ?_
  have lp2_3 : ∀ (nlp2_3 : Nat) (i1 : Int) (m2 : zM), zInv m2 → zFr W_188 m0 m2 → 0 ≤ i1 → i1 ≤ 10 → (i1 ≤ a0 ∨ m2 81 a0.toNat ≤ 0) → (10 - i1).toNat < nlp2_3 → zW E (d) 188 2 [(2, 69), (0, a0), (0, a1), (0, i1), (9, 0), (9, 0), (9, 0)] [] m2 Q := by
    intro nlp2_3
    induction nlp2_3 with
    | zero =>
      intros
      exact absurd (by assumption : _ < 0) (Nat.not_lt_zero _)
    | succ nlp2_3 ihlp2_3 =>
      intro i1 m2 hIm2 hFm2 li1 ui1 hv0lp2_3 hmlp2_3
      refine zw_3 zr_188_2 rfl ?_
      refine zw_push zr_188_3 ?_
      refine zw_41_3 zr_188_5 ?_ ?_
      · intro h5
        refine zw_push zr_188_31 ?_
        refine zw_9 (L' := [(2, 69), (0, a0), (0, a1), (0, 0), (9, 0), (9, 0), (9, 0)]) zr_188_32 (Nat.le_of_ble_eq_true rfl) rfl ?_
        have lp33_8 : ∀ (nlp33_8 : Nat) (i6 : Int) (m7 : zM), zInv m7 → zFr W_188 m0 m7 → 0 ≤ i6 → i6 ≤ 10 → (m7 81 a0.toNat ≤ 0) → (10 - i6).toNat < nlp33_8 → zW E (d) 188 33 [(2, 69), (0, a0), (0, a1), (0, i6), (9, 0), (9, 0), (9, 0)] [] m7 Q := by
          intro nlp33_8
          induction nlp33_8 with
          | zero =>
            intros
            exact absurd (by assumption : _ < 0) (Nat.not_lt_zero _)
          | succ nlp33_8 ihlp33_8 =>
            intro i6 m7 hIm7 hFm7 li6 ui6 hv0lp33_8 hmlp33_8
            refine zw_3 zr_188_33 rfl ?_
            refine zw_push zr_188_34 ?_
            refine zw_41_3 zr_188_36 ?_ ?_
            · intro h10
              refine zw_R zr_188_186 (by decide) zm_188 (v := (9, 0)) rfl ?_
              rw [← hQ]; exact ⟨rfl, hIm7, hFm7, by omega⟩
            · intro h12
              refine zw_push zr_188_39 ?_
              refine zw_10 (L' := [(2, 69), (0, a0), (0, a1), (0, i6), (0, 0), (9, 0), (9, 0)]) zr_188_40 (Nat.le_of_ble_eq_true rfl) rfl ?_
              have lp42_15 : ∀ (nlp42_15 : Nat) (i13 : Int) (m14 : zM), zInv m14 → zFr W_188 m0 m14 → 0 ≤ i13 → i13 ≤ 60 → (m14 81 a0.toNat ≤ 0) → (60 - i13).toNat < nlp42_15 → zW E (d) 188 42 [(2, 69), (0, a0), (0, a1), (0, i6), (0, i13), (9, 0), (9, 0)] [] m14 Q := by
                intro nlp42_15
                induction nlp42_15 with
                | zero =>
                  intros
                  exact absurd (by assumption : _ < 0) (Nat.not_lt_zero _)
                | succ nlp42_15 ihlp42_15 =>
                  intro i13 m14 hIm14 hFm14 li13 ui13 hv0lp42_15 hmlp42_15
                  refine zw_4 zr_188_42 rfl ?_
                  refine zw_7 zr_188_44 rfl ?_
                  refine zw_C zr_188_45 (Or.inl rfl) zm_142 rfl rfl ⟨Nat.le_of_ble_eq_true rfl, Nat.le_of_ble_eq_true rfl, Nat.le_of_ble_eq_true rfl, rfl, by decide⟩ (by omega) (P := (fun v m' => zW E (d) 188 48 [(2, 69), (0, a0), (0, a1), (0, i6), (0, i13), (9, 0), (9, 0)] (if v.1 = 9 then [(0, i13)] else v :: [(0, i13)]) m' Q)) ?_ (fun _ _ h => h)
                  generalize hQ1 : (fun v m' => zW E (d) 188 48 [(2, 69), (0, a0), (0, a1), (0, i6), (0, i13), (9, 0), (9, 0)] (if v.1 = 9 then [(0, i13)] else v :: [(0, i13)]) m' Q) = Q1
                  show zW E (d - 1) 142 0 [(2, 69)] [] m14 Q1
                  refine zw_7 zr_142_0 rfl ?_
                  refine zw_46r (s := 70) zr_142_1 rfl rfl rfl rfl ?_
                  refine zw_push zr_142_4 ?_
                  obtain ⟨f17, ef17⟩ : ∃ v, m14 70 823 = v := ⟨_, rfl⟩
                  have bf17 : 0 ≤ m14 70 823 ∧ m14 70 823 ≤ 60 := ib_70_meetings hIm14 (by omega)
                  rw [ef17] at bf17
                  refine zw_48k (c := 70) (len := 826) zr_142_7 rfl rfl (by omega) (by omega) (show (823 : Int).toNat = 823 by omega) ef17 ?_
                  refine zw_R zr_142_8 (by decide) zm_142 (v := (0, f17)) rfl ?_
                  rw [← hQ1]
                  show zW E (d) 188 48 [(2, 69), (0, a0), (0, a1), (0, i6), (0, i13), (9, 0), (9, 0)] [(0, f17), (0, i13)] m14 Q
                  refine zw_41_3 zr_188_48 ?_ ?_
                  · intro h18
                    refine zw_15 (c := 1) (L' := [(2, 69), (0, a0), (0, a1), (0, (i6 + 1)), (0, i13), (9, 0), (9, 0)]) zr_188_180 rfl (by decide) (by omega) rfl ?_
                    refine zw_42 zr_188_183 ?_
                    exact zw_less (L := [(2, 69), (0, a0), (0, a1), (0, (i6 + 1)), (9, 0), (9, 0), (9, 0)]) ⟨Or.inr rfl, Or.inr rfl, Or.inr rfl, Or.inr rfl, Or.inl rfl, Or.inl rfl, Or.inl rfl, trivial⟩ (ihlp33_8 ((i6 + 1)) m14 hIm14 hFm14   (by omega) (by omega) (by omega) (by omega))
                  · intro h19
                    refine zw_7 zr_188_51 rfl ?_
                    refine zw_4 zr_188_52 rfl ?_
                    refine zw_C zr_188_54 (Or.inl rfl) zm_181 rfl rfl ⟨Nat.le_of_ble_eq_true rfl, Nat.le_of_ble_eq_true rfl, Nat.le_of_ble_eq_true rfl, rfl, by decide⟩ (by omega) (P := (fun v m' => zW E (d) 188 57 [(2, 69), (0, a0), (0, a1), (0, i6), (0, i13), (9, 0), (9, 0)] (if v.1 = 9 then [] else v :: []) m' Q)) ?_ (fun _ _ h => h)
                    generalize hQ1 : (fun v m' => zW E (d) 188 57 [(2, 69), (0, a0), (0, a1), (0, i6), (0, i13), (9, 0), (9, 0)] (if v.1 = 9 then [] else v :: []) m' Q) = Q1
                    show zW E (d - 1) 181 0 [(2, 69), (0, i13)] [] m14 Q1
                    refine zw_7 zr_181_0 rfl ?_
                    refine zw_3 zr_181_1 rfl ?_
                    refine zw_push zr_181_2 ?_
                    refine zw_C zr_181_3 (Or.inl rfl) zm_144 rfl rfl ⟨Nat.le_of_ble_eq_true rfl, Nat.le_of_ble_eq_true rfl, Nat.le_of_ble_eq_true rfl, rfl, by decide⟩ (by omega) (P := (fun v m' => zW E (d - 1) 181 6 [(2, 69), (0, i13)] (if v.1 = 9 then [] else v :: []) m' Q1)) ?_ (fun _ _ h => h)
                    generalize hQ2 : (fun v m' => zW E (d - 1) 181 6 [(2, 69), (0, i13)] (if v.1 = 9 then [] else v :: []) m' Q1) = Q2
                    show zW E (d - 1 - 1) 144 0 [(2, 69), (0, i13), (0, 4)] [] m14 Q2
                    refine zw_7 zr_144_0 rfl ?_
                    refine zw_46r (s := 70) zr_144_1 rfl rfl rfl rfl ?_
                    refine zw_push zr_144_4 ?_
                    refine zw_push zr_144_6 ?_
                    refine zw_3 zr_144_8 rfl ?_
                    refine zw_18 zr_144_9 (by omega) ?_
                    refine zw_16 zr_144_10 (by omega) ?_
                    refine zw_3 zr_144_11 rfl ?_
                    refine zw_16 zr_144_12 (by omega) ?_
                    refine zw_48 (c := 70) (len := 826) zr_144_13 rfl rfl (by omega) (by omega) ?_
                    intro x20 ex20
                    have bx20 := ib_70_m4 hIm14 (k := (((90 + (6 * i13)) + 4)).toNat) (by omega)
                    rw [← ex20] at bx20
                    clear ex20
                    refine zw_R zr_144_14 (by decide) zm_144 (v := (0, x20)) rfl ?_
                    rw [← hQ2]
                    show zW E (d - 1) 181 6 [(2, 69), (0, i13)] [(0, x20)] m14 Q1
                    refine zw_40_4 zr_181_6 ?_ ?_
                    · intro h21
                      refine zw_push zr_181_22 ?_
                      refine zw_R zr_181_23 (by decide) zm_181 (v := (0, 0)) (zRetB (by omega)) ?_
                      rw [← hQ1]
                      show zW E (d) 188 57 [(2, 69), (0, a0), (0, a1), (0, i6), (0, i13), (9, 0), (9, 0)] [(0, 0)] m14 Q
                      refine zw_40_1 zr_188_57 ?_ ?_
                      · intro h22
                        refine zw_15 (c := 1) (L' := [(2, 69), (0, a0), (0, a1), (0, i6), (0, (i13 + 1)), (9, 0), (9, 0)]) zr_188_174 rfl (by decide) (by omega) rfl ?_
                        refine zw_42 zr_188_177 ?_
                        exact zw_less (L := [(2, 69), (0, a0), (0, a1), (0, i6), (0, (i13 + 1)), (9, 0), (9, 0)]) ⟨Or.inr rfl, Or.inr rfl, Or.inr rfl, Or.inr rfl, Or.inr rfl, Or.inl rfl, Or.inl rfl, trivial⟩ (ihlp42_15 ((i13 + 1)) m14 hIm14 hFm14   (by omega) (by omega) (by omega) (by omega))
                      · intro h23; omega
                    · intro h24
                      refine zw_7 zr_181_9 rfl ?_
                      refine zw_3 zr_181_10 rfl ?_
                      refine zw_push zr_181_11 ?_
                      refine zw_C zr_181_12 (Or.inl rfl) zm_144 rfl rfl ⟨Nat.le_of_ble_eq_true rfl, Nat.le_of_ble_eq_true rfl, Nat.le_of_ble_eq_true rfl, rfl, by decide⟩ (by omega) (P := (fun v m' => zW E (d - 1) 181 15 [(2, 69), (0, i13)] (if v.1 = 9 then [] else v :: []) m' Q1)) ?_ (fun _ _ h => h)
                      generalize hQ2 : (fun v m' => zW E (d - 1) 181 15 [(2, 69), (0, i13)] (if v.1 = 9 then [] else v :: []) m' Q1) = Q2
                      show zW E (d - 1 - 1) 144 0 [(2, 69), (0, i13), (0, 5)] [] m14 Q2
                      refine zw_7 zr_144_0 rfl ?_
                      refine zw_46r (s := 70) zr_144_1 rfl rfl rfl rfl ?_
                      refine zw_push zr_144_4 ?_
                      refine zw_push zr_144_6 ?_
                      refine zw_3 zr_144_8 rfl ?_
                      refine zw_18 zr_144_9 (by omega) ?_
                      refine zw_16 zr_144_10 (by omega) ?_
                      refine zw_3 zr_144_11 rfl ?_
                      refine zw_16 zr_144_12 (by omega) ?_
                      refine zw_48 (c := 70) (len := 826) zr_144_13 rfl rfl (by omega) (by omega) ?_
                      intro x25 ex25
                      have bx25 := ib_70_m5 hIm14 (k := (((90 + (6 * i13)) + 5)).toNat) (by omega)
                      rw [← ex25] at bx25
                      clear ex25
                      refine zw_R zr_144_14 (by decide) zm_144 (v := (0, x25)) rfl ?_
                      rw [← hQ2]
                      show zW E (d - 1) 181 15 [(2, 69), (0, i13)] [(0, x25)] m14 Q1
                      refine zw_40_4 zr_181_15 ?_ ?_
                      · intro h26
                        refine zw_push zr_181_22 ?_
                        refine zw_R zr_181_23 (by decide) zm_181 (v := (0, 0)) (zRetB (by omega)) ?_
                        rw [← hQ1]
                        show zW E (d) 188 57 [(2, 69), (0, a0), (0, a1), (0, i6), (0, i13), (9, 0), (9, 0)] [(0, 0)] m14 Q
                        refine zw_40_1 zr_188_57 ?_ ?_
                        · intro h27
                          refine zw_15 (c := 1) (L' := [(2, 69), (0, a0), (0, a1), (0, i6), (0, (i13 + 1)), (9, 0), (9, 0)]) zr_188_174 rfl (by decide) (by omega) rfl ?_
                          refine zw_42 zr_188_177 ?_
                          exact zw_less (L := [(2, 69), (0, a0), (0, a1), (0, i6), (0, (i13 + 1)), (9, 0), (9, 0)]) ⟨Or.inr rfl, Or.inr rfl, Or.inr rfl, Or.inr rfl, Or.inr rfl, Or.inl rfl, Or.inl rfl, trivial⟩ (ihlp42_15 ((i13 + 1)) m14 hIm14 hFm14   (by omega) (by omega) (by omega) (by omega))
                        · intro h28; omega
                      · intro h29
                        refine zw_push zr_181_18 ?_
                        refine zw_42 zr_181_19 ?_
                        refine zw_R zr_181_23 (by decide) zm_181 (v := (0, 1)) (zRetB (by omega)) ?_
                        rw [← hQ1]
                        show zW E (d) 188 57 [(2, 69), (0, a0), (0, a1), (0, i6), (0, i13), (9, 0), (9, 0)] [(0, 1)] m14 Q
                        refine zw_40_1 zr_188_57 ?_ ?_
                        · intro h30; omega
                        · intro h31
                          refine zw_4 zr_188_60 rfl ?_
                          refine zw_3 zr_188_62 rfl ?_
                          refine zw_41_1 zr_188_63 ?_ ?_
                          · intro h32
                            refine zw_15 (c := 1) (L' := [(2, 69), (0, a0), (0, a1), (0, i6), (0, (i13 + 1)), (9, 0), (9, 0)]) zr_188_174 rfl (by decide) (by omega) rfl ?_
                            refine zw_42 zr_188_177 ?_
                            exact zw_less (L := [(2, 69), (0, a0), (0, a1), (0, i6), (0, (i13 + 1)), (9, 0), (9, 0)]) ⟨Or.inr rfl, Or.inr rfl, Or.inr rfl, Or.inr rfl, Or.inr rfl, Or.inl rfl, Or.inl rfl, trivial⟩ (ihlp42_15 ((i13 + 1)) m14 hIm14 hFm14   (by omega) (by omega) (by omega) (by omega))
                          · intro h33
                            refine zw_7 zr_188_66 rfl ?_
                            refine zw_4 zr_188_67 rfl ?_
                            refine zw_push zr_188_69 ?_
                            refine zw_C zr_188_70 (Or.inl rfl) zm_144 rfl rfl ⟨Nat.le_of_ble_eq_true rfl, Nat.le_of_ble_eq_true rfl, Nat.le_of_ble_eq_true rfl, rfl, by decide⟩ (by omega) (P := (fun v m' => zW E (d) 188 73 [(2, 69), (0, a0), (0, a1), (0, i6), (0, i13), (9, 0), (9, 0)] (if v.1 = 9 then [] else v :: []) m' Q)) ?_ (fun _ _ h => h)
                            generalize hQ1 : (fun v m' => zW E (d) 188 73 [(2, 69), (0, a0), (0, a1), (0, i6), (0, i13), (9, 0), (9, 0)] (if v.1 = 9 then [] else v :: []) m' Q) = Q1
                            show zW E (d - 1) 144 0 [(2, 69), (0, i13), (0, 1)] [] m14 Q1
                            refine zw_7 zr_144_0 rfl ?_
                            refine zw_46r (s := 70) zr_144_1 rfl rfl rfl rfl ?_
                            refine zw_push zr_144_4 ?_
                            refine zw_push zr_144_6 ?_
                            refine zw_3 zr_144_8 rfl ?_
                            refine zw_18 zr_144_9 (by omega) ?_
                            refine zw_16 zr_144_10 (by omega) ?_
                            refine zw_3 zr_144_11 rfl ?_
                            refine zw_16 zr_144_12 (by omega) ?_
                            refine zw_48 (c := 70) (len := 826) zr_144_13 rfl rfl (by omega) (by omega) ?_
                            intro x34 ex34
                            have bx34 := ib_70_m1 hIm14 (k := (((90 + (6 * i13)) + 1)).toNat) (by omega)
                            rw [← ex34] at bx34
                            clear ex34
                            refine zw_R zr_144_14 (by decide) zm_144 (v := (0, x34)) rfl ?_
                            rw [← hQ1]
                            show zW E (d) 188 73 [(2, 69), (0, a0), (0, a1), (0, i6), (0, i13), (9, 0), (9, 0)] [(0, x34)] m14 Q
                            refine zw_10 (L' := [(2, 69), (0, a0), (0, a1), (0, i6), (0, i13), (0, x34), (9, 0)]) zr_188_73 (Nat.le_of_ble_eq_true rfl) rfl ?_
                            refine zw_7 zr_188_75 rfl ?_
                            refine zw_4 zr_188_76 rfl ?_
                            refine zw_push zr_188_78 ?_
                            refine zw_C zr_188_79 (Or.inl rfl) zm_144 rfl rfl ⟨Nat.le_of_ble_eq_true rfl, Nat.le_of_ble_eq_true rfl, Nat.le_of_ble_eq_true rfl, rfl, by decide⟩ (by omega) (P := (fun v m' => zW E (d) 188 82 [(2, 69), (0, a0), (0, a1), (0, i6), (0, i13), (0, x34), (9, 0)] (if v.1 = 9 then [] else v :: []) m' Q)) ?_ (fun _ _ h => h)
                            generalize hQ1 : (fun v m' => zW E (d) 188 82 [(2, 69), (0, a0), (0, a1), (0, i6), (0, i13), (0, x34), (9, 0)] (if v.1 = 9 then [] else v :: []) m' Q) = Q1
                            show zW E (d - 1) 144 0 [(2, 69), (0, i13), (0, 2)] [] m14 Q1
                            refine zw_7 zr_144_0 rfl ?_
                            refine zw_46r (s := 70) zr_144_1 rfl rfl rfl rfl ?_
                            refine zw_push zr_144_4 ?_
                            refine zw_push zr_144_6 ?_
                            refine zw_3 zr_144_8 rfl ?_
                            refine zw_18 zr_144_9 (by omega) ?_
                            refine zw_16 zr_144_10 (by omega) ?_
                            refine zw_3 zr_144_11 rfl ?_
                            refine zw_16 zr_144_12 (by omega) ?_
                            refine zw_48 (c := 70) (len := 826) zr_144_13 rfl rfl (by omega) (by omega) ?_
                            intro x35 ex35
                            have bx35 := ib_70_m2 hIm14 (k := (((90 + (6 * i13)) + 2)).toNat) (by omega)
                            rw [← ex35] at bx35
                            clear ex35
                            refine zw_R zr_144_14 (by decide) zm_144 (v := (0, x35)) rfl ?_
                            rw [← hQ1]
                            show zW E (d) 188 82 [(2, 69), (0, a0), (0, a1), (0, i6), (0, i13), (0, x34), (9, 0)] [(0, x35)] m14 Q
                            refine zw_10 (L' := [(2, 69), (0, a0), (0, a1), (0, i6), (0, i13), (0, x34), (0, x35)]) zr_188_82 (Nat.le_of_ble_eq_true rfl) rfl ?_
                            refine zw_7 zr_188_84 rfl ?_
                            refine zw_46r (s := 81) zr_188_85 rfl rfl rfl rfl ?_
                            refine zw_4 zr_188_88 rfl ?_
                            refine zw_7 zr_188_90 rfl ?_
                            refine zw_46r (s := 81) zr_188_91 rfl rfl rfl rfl ?_
                            refine zw_4 zr_188_94 rfl ?_
                            refine zw_48 (c := 81) (len := 10) zr_188_96 rfl rfl (by omega) (by omega) ?_
                            intro x36 ex36
                            have bx36 := ib_81 hIm14 (k := (x35).toNat) (by omega)
                            rw [← ex36] at bx36
                            have wx36 := zcg (m14 81) (x35).toNat (a0.toNat)
                            refine zw_push zr_188_97 ?_
                            refine zw_16 zr_188_98 (by omega) ?_
                            refine zw_7 zr_188_99 rfl ?_
                            refine zw_46r (s := 81) zr_188_100 rfl rfl rfl rfl ?_
                            refine zw_4 zr_188_103 rfl ?_
                            refine zw_48 (c := 81) (len := 10) zr_188_105 rfl rfl (by omega) (by omega) ?_
                            intro x37 ex37
                            have bx37 := ib_81 hIm14 (k := (x34).toNat) (by omega)
                            rw [← ex37] at bx37
                            have wx37 := zcg (m14 81) (x34).toNat (a0.toNat)
                            refine zw_41_3 zr_188_106 ?_ ?_
                            · intro h38
                              refine zw_7 zr_188_121 rfl ?_
                              refine zw_46r (s := 81) zr_188_122 rfl rfl rfl rfl ?_
                              refine zw_4 zr_188_125 rfl ?_
                              refine zw_48k (c := 81) (len := 10) zr_188_127 rfl rfl (by omega) (by omega) rfl ex37.symm ?_
                              refine zw_49 (c := 81) (len := 10) zr_188_128 rfl rfl (by omega) (by omega) ?_
                              intro m39 em39
                              have hIm39 : zInv m39 := by rw [em39]; exact iu_81 hIm14 (by omega)
                              have hFm39 : zFr W_188 m0 m39 := by rw [em39]; exact hFm14.any rfl
                              have km39_70_823 : m39 70 823 = f17 := by rw [em39, zUp_ne (by omega)]; exact ef17
                              have w0m39 : ((a0.toNat) = (x34).toNat ∧ m39 81 (a0.toNat) = x37) ∨ ((a0.toNat) ≠ (x34).toNat ∧ m39 81 (a0.toNat) = m14 81 (a0.toNat)) := by rw [em39]; exact zUp_w _ _ _ _ _
                              clear em39
                              refine zw_7 zr_188_129 rfl ?_
                              refine zw_46r (s := 81) zr_188_130 rfl rfl rfl rfl ?_
                              refine zw_4 zr_188_133 rfl ?_
                              refine zw_7 zr_188_135 rfl ?_
                              refine zw_46r (s := 81) zr_188_136 rfl rfl rfl rfl ?_
                              refine zw_4 zr_188_139 rfl ?_
                              refine zw_48 (c := 81) (len := 10) zr_188_141 rfl rfl (by omega) (by omega) ?_
                              intro x40 ex40
                              have bx40 := ib_81 hIm39 (k := (x34).toNat) (by omega)
                              rw [← ex40] at bx40
                              have wx40 := zcg (m39 81) (x34).toNat (a0.toNat)
                              refine zw_push zr_188_142 ?_
                              refine zw_16 zr_188_143 (by omega) ?_
                              refine zw_7 zr_188_144 rfl ?_
                              refine zw_46r (s := 81) zr_188_145 rfl rfl rfl rfl ?_
                              refine zw_4 zr_188_148 rfl ?_
                              refine zw_48 (c := 81) (len := 10) zr_188_150 rfl rfl (by omega) (by omega) ?_
                              intro x41 ex41
                              have bx41 := ib_81 hIm39 (k := (x35).toNat) (by omega)
                              rw [← ex41] at bx41
                              have wx41 := zcg (m39 81) (x35).toNat (a0.toNat)
                              refine zw_41_3 zr_188_151 ?_ ?_
                              · intro h42
                                refine zw_7 zr_188_166 rfl ?_
                                refine zw_46r (s := 81) zr_188_167 rfl rfl rfl rfl ?_
                                refine zw_4 zr_188_170 rfl ?_
                                refine zw_48k (c := 81) (len := 10) zr_188_172 rfl rfl (by omega) (by omega) rfl ex41.symm ?_
                                refine zw_49 (c := 81) (len := 10) zr_188_173 rfl rfl (by omega) (by omega) ?_
                                intro m43 em43
                                have hIm43 : zInv m43 := by rw [em43]; exact iu_81 hIm39 (by omega)
                                have hFm43 : zFr W_188 m0 m43 := by rw [em43]; exact hFm39.any rfl
                                have km43_70_823 : m43 70 823 = f17 := by rw [em43, zUp_ne (by omega)]; exact km39_70_823
                                have w0m43 : ((a0.toNat) = (x35).toNat ∧ m43 81 (a0.toNat) = x41) ∨ ((a0.toNat) ≠ (x35).toNat ∧ m43 81 (a0.toNat) = m39 81 (a0.toNat)) := by rw [em43]; exact zUp_w _ _ _ _ _
                                clear em43
                                refine zw_15 (c := 1) (L' := [(2, 69), (0, a0), (0, a1), (0, i6), (0, (i13 + 1)), (0, x34), (0, x35)]) zr_188_174 rfl (by decide) (by omega) rfl ?_
                                refine zw_42 zr_188_177 ?_
                                exact zw_less (L := [(2, 69), (0, a0), (0, a1), (0, i6), (0, (i13 + 1)), (9, 0), (9, 0)]) ⟨Or.inr rfl, Or.inr rfl, Or.inr rfl, Or.inr rfl, Or.inr rfl, Or.inl rfl, Or.inl rfl, trivial⟩ (ihlp42_15 ((i13 + 1)) m43 hIm43 hFm43   (by omega) (by omega) (by omega) (by omega))
                              · intro h44
                                refine zw_7 zr_188_154 rfl ?_
                                refine zw_46r (s := 81) zr_188_155 rfl rfl rfl rfl ?_
                                refine zw_4 zr_188_158 rfl ?_
                                refine zw_48k (c := 81) (len := 10) zr_188_160 rfl rfl (by omega) (by omega) rfl ex40.symm ?_
                                refine zw_push zr_188_161 ?_
                                refine zw_16 zr_188_162 (by omega) ?_
                                refine zw_42 zr_188_163 ?_
                                refine zw_49 (c := 81) (len := 10) zr_188_173 rfl rfl (by omega) (by omega) ?_
                                intro m45 em45
                                have hIm45 : zInv m45 := by rw [em45]; exact iu_81 hIm39 (by omega)
                                have hFm45 : zFr W_188 m0 m45 := by rw [em45]; exact hFm39.any rfl
                                have km45_70_823 : m45 70 823 = f17 := by rw [em45, zUp_ne (by omega)]; exact km39_70_823
                                have w0m45 : ((a0.toNat) = (x35).toNat ∧ m45 81 (a0.toNat) = (x40 + 1)) ∨ ((a0.toNat) ≠ (x35).toNat ∧ m45 81 (a0.toNat) = m39 81 (a0.toNat)) := by rw [em45]; exact zUp_w _ _ _ _ _
                                clear em45
                                refine zw_15 (c := 1) (L' := [(2, 69), (0, a0), (0, a1), (0, i6), (0, (i13 + 1)), (0, x34), (0, x35)]) zr_188_174 rfl (by decide) (by omega) rfl ?_
                                refine zw_42 zr_188_177 ?_
                                exact zw_less (L := [(2, 69), (0, a0), (0, a1), (0, i6), (0, (i13 + 1)), (9, 0), (9, 0)]) ⟨Or.inr rfl, Or.inr rfl, Or.inr rfl, Or.inr rfl, Or.inr rfl, Or.inl rfl, Or.inl rfl, trivial⟩ (ihlp42_15 ((i13 + 1)) m45 hIm45 hFm45   (by omega) (by omega) (by omega) (by omega))
                            · intro h46
                              refine zw_7 zr_188_109 rfl ?_
                              refine zw_46r (s := 81) zr_188_110 rfl rfl rfl rfl ?_
                              refine zw_4 zr_188_113 rfl ?_
                              refine zw_48k (c := 81) (len := 10) zr_188_115 rfl rfl (by omega) (by omega) rfl ex36.symm ?_
                              refine zw_push zr_188_116 ?_
                              refine zw_16 zr_188_117 (by omega) ?_
                              refine zw_42 zr_188_118 ?_
                              refine zw_49 (c := 81) (len := 10) zr_188_128 rfl rfl (by omega) (by omega) ?_
                              intro m47 em47
                              have hIm47 : zInv m47 := by rw [em47]; exact iu_81 hIm14 (by omega)
                              have hFm47 : zFr W_188 m0 m47 := by rw [em47]; exact hFm14.any rfl
                              have km47_70_823 : m47 70 823 = f17 := by rw [em47, zUp_ne (by omega)]; exact ef17
                              have w0m47 : ((a0.toNat) = (x34).toNat ∧ m47 81 (a0.toNat) = (x36 + 1)) ∨ ((a0.toNat) ≠ (x34).toNat ∧ m47 81 (a0.toNat) = m14 81 (a0.toNat)) := by rw [em47]; exact zUp_w _ _ _ _ _
                              clear em47
                              refine zw_7 zr_188_129 rfl ?_
                              refine zw_46r (s := 81) zr_188_130 rfl rfl rfl rfl ?_
                              refine zw_4 zr_188_133 rfl ?_
                              refine zw_7 zr_188_135 rfl ?_
                              refine zw_46r (s := 81) zr_188_136 rfl rfl rfl rfl ?_
                              refine zw_4 zr_188_139 rfl ?_
                              refine zw_48 (c := 81) (len := 10) zr_188_141 rfl rfl (by omega) (by omega) ?_
                              intro x48 ex48
                              have bx48 := ib_81 hIm47 (k := (x34).toNat) (by omega)
                              rw [← ex48] at bx48
                              have wx48 := zcg (m47 81) (x34).toNat (a0.toNat)
                              refine zw_push zr_188_142 ?_
                              refine zw_16 zr_188_143 (by omega) ?_
                              refine zw_7 zr_188_144 rfl ?_
                              refine zw_46r (s := 81) zr_188_145 rfl rfl rfl rfl ?_
                              refine zw_4 zr_188_148 rfl ?_
                              refine zw_48 (c := 81) (len := 10) zr_188_150 rfl rfl (by omega) (by omega) ?_
                              intro x49 ex49
                              have bx49 := ib_81 hIm47 (k := (x35).toNat) (by omega)
                              rw [← ex49] at bx49
                              have wx49 := zcg (m47 81) (x35).toNat (a0.toNat)
                              refine zw_41_3 zr_188_151 ?_ ?_
                              · intro h50
                                refine zw_7 zr_188_166 rfl ?_
                                refine zw_46r (s := 81) zr_188_167 rfl rfl rfl rfl ?_
                                refine zw_4 zr_188_170 rfl ?_
                                refine zw_48k (c := 81) (len := 10) zr_188_172 rfl rfl (by omega) (by omega) rfl ex49.symm ?_
                                refine zw_49 (c := 81) (len := 10) zr_188_173 rfl rfl (by omega) (by omega) ?_
                                intro m51 em51
                                have hIm51 : zInv m51 := by rw [em51]; exact iu_81 hIm47 (by omega)
                                have hFm51 : zFr W_188 m0 m51 := by rw [em51]; exact hFm47.any rfl
                                have km51_70_823 : m51 70 823 = f17 := by rw [em51, zUp_ne (by omega)]; exact km47_70_823
                                have w0m51 : ((a0.toNat) = (x35).toNat ∧ m51 81 (a0.toNat) = x49) ∨ ((a0.toNat) ≠ (x35).toNat ∧ m51 81 (a0.toNat) = m47 81 (a0.toNat)) := by rw [em51]; exact zUp_w _ _ _ _ _
                                clear em51
                                refine zw_15 (c := 1) (L' := [(2, 69), (0, a0), (0, a1), (0, i6), (0, (i13 + 1)), (0, x34), (0, x35)]) zr_188_174 rfl (by decide) (by omega) rfl ?_
                                refine zw_42 zr_188_177 ?_
                                exact zw_less (L := [(2, 69), (0, a0), (0, a1), (0, i6), (0, (i13 + 1)), (9, 0), (9, 0)]) ⟨Or.inr rfl, Or.inr rfl, Or.inr rfl, Or.inr rfl, Or.inr rfl, Or.inl rfl, Or.inl rfl, trivial⟩ (ihlp42_15 ((i13 + 1)) m51 hIm51 hFm51   (by omega) (by omega) (by omega) (by omega))
                              · intro h52
                                refine zw_7 zr_188_154 rfl ?_
                                refine zw_46r (s := 81) zr_188_155 rfl rfl rfl rfl ?_
                                refine zw_4 zr_188_158 rfl ?_
                                refine zw_48k (c := 81) (len := 10) zr_188_160 rfl rfl (by omega) (by omega) rfl ex48.symm ?_
                                refine zw_push zr_188_161 ?_
                                refine zw_16 zr_188_162 (by omega) ?_
                                refine zw_42 zr_188_163 ?_
                                refine zw_49 (c := 81) (len := 10) zr_188_173 rfl rfl (by omega) (by omega) ?_
                                intro m53 em53
                                have hIm53 : zInv m53 := by rw [em53]; exact iu_81 hIm47 (by omega)
                                have hFm53 : zFr W_188 m0 m53 := by rw [em53]; exact hFm47.any rfl
                                have km53_70_823 : m53 70 823 = f17 := by rw [em53, zUp_ne (by omega)]; exact km47_70_823
                                have w0m53 : ((a0.toNat) = (x35).toNat ∧ m53 81 (a0.toNat) = (x48 + 1)) ∨ ((a0.toNat) ≠ (x35).toNat ∧ m53 81 (a0.toNat) = m47 81 (a0.toNat)) := by rw [em53]; exact zUp_w _ _ _ _ _
                                clear em53
                                refine zw_15 (c := 1) (L' := [(2, 69), (0, a0), (0, a1), (0, i6), (0, (i13 + 1)), (0, x34), (0, x35)]) zr_188_174 rfl (by decide) (by omega) rfl ?_
                                refine zw_42 zr_188_177 ?_
                                exact zw_less (L := [(2, 69), (0, a0), (0, a1), (0, i6), (0, (i13 + 1)), (9, 0), (9, 0)]) ⟨Or.inr rfl, Or.inr rfl, Or.inr rfl, Or.inr rfl, Or.inr rfl, Or.inl rfl, Or.inl rfl, trivial⟩ (ihlp42_15 ((i13 + 1)) m53 hIm53 hFm53   (by omega) (by omega) (by omega) (by omega))
              exact lp42_15 _ (0) m7 hIm7 hFm7   (by omega) (by omega) (by omega) (Nat.lt_succ_self _)
        exact lp33_8 _ (0) m2 hIm2 hFm2   (by omega) (by omega) (by omega) (Nat.lt_succ_self _)
      · intro h54
        refine zw_7 zr_188_8 rfl ?_
        refine zw_46r (s := 81) zr_188_9 rfl rfl rfl rfl ?_
        refine zw_3 zr_188_12 rfl ?_
        refine zw_3 zr_188_13 rfl ?_
        refine zw_3 zr_188_14 rfl ?_
        refine zw_41_4 zr_188_15 ?_ ?_
        · intro h55
          refine zw_push zr_188_22 ?_
          refine zw_49 (c := 81) (len := 10) zr_188_24 rfl rfl (by omega) (by omega) ?_
          intro m56 em56
          have hIm56 : zInv m56 := by rw [em56]; exact iu_81 hIm2 (by omega)
          have hFm56 : zFr W_188 m0 m56 := by rw [em56]; exact hFm2.any rfl
          have w0m56 : ((a0.toNat) = (i1).toNat ∧ m56 81 (a0.toNat) = 100000000) ∨ ((a0.toNat) ≠ (i1).toNat ∧ m56 81 (a0.toNat) = m2 81 (a0.toNat)) := by rw [em56]; exact zUp_w _ _ _ _ _
          clear em56
          refine zw_15 (c := 1) (L' := [(2, 69), (0, a0), (0, a1), (0, (i1 + 1)), (9, 0), (9, 0), (9, 0)]) zr_188_25 rfl (by decide) (by omega) rfl ?_
          refine zw_42 zr_188_28 ?_
          exact zw_less (L := [(2, 69), (0, a0), (0, a1), (0, (i1 + 1)), (9, 0), (9, 0), (9, 0)]) ⟨Or.inr rfl, Or.inr rfl, Or.inr rfl, Or.inr rfl, Or.inl rfl, Or.inl rfl, Or.inl rfl, trivial⟩ (ihlp2_3 ((i1 + 1)) m56 hIm56 hFm56   (by omega) (by omega) (by omega) (by omega))
        · intro h57
          refine zw_push zr_188_18 ?_
          refine zw_42 zr_188_19 ?_
          refine zw_49 (c := 81) (len := 10) zr_188_24 rfl rfl (by omega) (by omega) ?_
          intro m58 em58
          have hIm58 : zInv m58 := by rw [em58]; exact iu_81 hIm2 (by omega)
          have hFm58 : zFr W_188 m0 m58 := by rw [em58]; exact hFm2.any rfl
          have w0m58 : ((a0.toNat) = (i1).toNat ∧ m58 81 (a0.toNat) = 0) ∨ ((a0.toNat) ≠ (i1).toNat ∧ m58 81 (a0.toNat) = m2 81 (a0.toNat)) := by rw [em58]; exact zUp_w _ _ _ _ _
          clear em58
          refine zw_15 (c := 1) (L' := [(2, 69), (0, a0), (0, a1), (0, (i1 + 1)), (9, 0), (9, 0), (9, 0)]) zr_188_25 rfl (by decide) (by omega) rfl ?_
          refine zw_42 zr_188_28 ?_
          exact zw_less (L := [(2, 69), (0, a0), (0, a1), (0, (i1 + 1)), (9, 0), (9, 0), (9, 0)]) ⟨Or.inr rfl, Or.inr rfl, Or.inr rfl, Or.inr rfl, Or.inl rfl, Or.inl rfl, Or.inl rfl, trivial⟩ (ihlp2_3 ((i1 + 1)) m58 hIm58 hFm58   (by omega) (by omega) (by omega) (by omega))
  exact lp2_3 _ (0) m0 hI0 hF0   (by omega) (by omega) (by omega) (Nat.lt_succ_self _)

abbrev W_189 : List (Nat × Nat) := [(81, 1000)]
set_option maxHeartbeats 8000000 in
theorem th_189 {E : zE} {d : Nat} {m0 : zM} {a0 : Int} (hd : 4 ≤ d) (hI0 : zInv m0) (ha0 : 0 ≤ a0 ∧ a0 ≤ 9) : zC E d 189 [(2, 69), (0, a0)] m0 (fun v m' => ∃ r : Int, v = (0, r) ∧ 0 ≤ r ∧ r ≤ 9 ∧ zInv m' ∧ zFr W_189 m0 m') := by
  have hF0 : zFr W_189 m0 m0 := zFr.rfl
  generalize hQ : (fun (v : zV) (m' : zM) => ∃ r : Int, v = (0, r) ∧ 0 ≤ r ∧ r ≤ 9 ∧ zInv m' ∧ zFr W_189 m0 m') = Q
  show zW E d 189 0 [(2, 69), (0, a0), (9, 0)] [] m0 Q
  refine zw_7 zr_189_0 rfl ?_
  refine zw_3 zr_189_1 rfl ?_
  refine zw_push zr_189_2 ?_
  refine zw_C zr_189_3 (Or.inl rfl) zm_188 rfl rfl ⟨Nat.le_of_ble_eq_true rfl, Nat.le_of_ble_eq_true rfl, Nat.le_of_ble_eq_true rfl, rfl, by decide⟩ (by omega) (th_188 (d := d - 1) (by omega) hI0 (a0 := a0) (a1 := (-1))      (by omega) (by omega) ) ?_
  rintro _ m1 ⟨rfl, hIm1, gm1, po0_m1⟩
  have hFm1 : zFr W_189 m0 m1 := hF0.trans gm1 rfl
  show zW E (d) 189 6 [(2, 69), (0, a0), (9, 0)] [] m1 Q
  refine zw_push zr_189_6 ?_
  refine zw_9 (L' := [(2, 69), (0, a0), (0, 0)]) zr_189_7 (Nat.le_of_ble_eq_true rfl) rfl ?_
  have lp8_3 : ∀ (nlp8_3 : Nat) (i2 : Int), 0 ≤ i2 → i2 ≤ 9 → (i2 ≤ a0) → (10 - i2).toNat < nlp8_3 → zW E (d) 189 8 [(2, 69), (0, a0), (0, i2)] [] m1 Q := by
    intro nlp8_3
    induction nlp8_3 with
    | zero =>
      intros
      exact absurd (by assumption : _ < 0) (Nat.not_lt_zero _)
    | succ nlp8_3 ihlp8_3 =>
      intro i2 li2 ui2 hv0lp8_3 hmlp8_3
      refine zw_7 zr_189_8 rfl ?_
      refine zw_46r (s := 81) zr_189_9 rfl rfl rfl rfl ?_
      refine zw_3 zr_189_12 rfl ?_
      refine zw_48 (c := 81) (len := 10) zr_189_13 rfl rfl (by omega) (by omega) ?_
      intro x5 ex5
      have bx5 := ib_81 hIm1 (k := (i2).toNat) (by omega)
      rw [← ex5] at bx5
      have wx5 := zcg (m1 81) (i2).toNat (a0.toNat)
      refine zw_push zr_189_14 ?_
      refine zw_41_0 zr_189_16 ?_ ?_
      · intro h6
        refine zw_3 zr_189_25 rfl ?_
        refine zw_R zr_189_26 (by decide) zm_189 (v := (0, i2)) rfl ?_
        rw [← hQ]; exact ⟨_, rfl, by omega, by omega, hIm1, hFm1⟩
      · intro h7
        refine zw_15 (c := 1) (L' := [(2, 69), (0, a0), (0, (i2 + 1))]) zr_189_19 rfl (by decide) (by omega) rfl ?_
        refine zw_42 zr_189_22 ?_
        exact zw_less (L := [(2, 69), (0, a0), (0, (i2 + 1))]) ⟨Or.inr rfl, Or.inr rfl, Or.inr rfl, trivial⟩ (ihlp8_3 ((i2 + 1))  (by omega) (by omega) (by omega) (by omega))
  exact lp8_3 _ (0)  (by omega) (by omega) (by omega) (Nat.lt_succ_self _)

abbrev W_190 : List (Nat × Nat) := [(81, 1000)]
set_option maxHeartbeats 8000000 in
theorem th_190 {E : zE} {d : Nat} {m0 : zM} {a0 : Int} (hd : 5 ≤ d) (hI0 : zInv m0) (ha0 : (-2147483648) ≤ a0 ∧ a0 ≤ 2147483647) : zC E d 190 [(2, 69), (0, a0)] m0 (fun v m' => ∃ r : Int, v = (0, r) ∧ (-2147483648) ≤ r ∧ r ≤ 2147483647 ∧ zInv m' ∧ zFr W_190 m0 m') := by
  have hF0 : zFr W_190 m0 m0 := zFr.rfl
  generalize hQ : (fun (v : zV) (m' : zM) => ∃ r : Int, v = (0, r) ∧ (-2147483648) ≤ r ∧ r ≤ 2147483647 ∧ zInv m' ∧ zFr W_190 m0 m') = Q
  show zW E d 190 0 [(2, 69), (0, a0), (9, 0), (9, 0)] [] m0 Q
  refine zw_3 zr_190_0 rfl ?_
  refine zw_push zr_190_1 ?_
  refine zw_41_1 zr_190_2 ?_ ?_
  · intro h1
    refine zw_3 zr_190_16 rfl ?_
    refine zw_push zr_190_17 ?_
    refine zw_41_1 zr_190_18 ?_ ?_
    · intro h2
      refine zw_push zr_190_27 ?_
      refine zw_9 (L' := [(2, 69), (0, a0), (0, 0), (9, 0)]) zr_190_28 (Nat.le_of_ble_eq_true rfl) rfl ?_
      refine zw_push zr_190_29 ?_
      refine zw_9 (L' := [(2, 69), (0, a0), (0, 0), (0, 0)]) zr_190_30 (Nat.le_of_ble_eq_true rfl) rfl ?_
      have lp31_6 : ∀ (nlp31_6 : Nat) (i3 i4 : Int) (m5 : zM), zInv m5 → zFr W_190 m0 m5 → (-2147483648) ≤ i3 → i3 ≤ 2147483647 → 0 ≤ i4 → i4 ≤ 10 → (10 - i4).toNat < nlp31_6 → zW E (d) 190 31 [(2, 69), (0, a0), (0, i3), (0, i4)] [] m5 Q := by
        intro nlp31_6
        induction nlp31_6 with
        | zero =>
          intros
          exact absurd (by assumption : _ < 0) (Nat.not_lt_zero _)
        | succ nlp31_6 ihlp31_6 =>
          intro i3 i4 m5 hIm5 hFm5 li3 ui3 li4 ui4 hmlp31_6
          refine zw_3 zr_190_31 rfl ?_
          refine zw_7 zr_190_32 rfl ?_
          refine zw_C zr_190_33 (Or.inl rfl) zm_141 rfl rfl ⟨Nat.le_of_ble_eq_true rfl, Nat.le_of_ble_eq_true rfl, Nat.le_of_ble_eq_true rfl, rfl, by decide⟩ (by omega) (P := (fun v m' => zW E (d) 190 36 [(2, 69), (0, a0), (0, i3), (0, i4)] (if v.1 = 9 then [(0, i4)] else v :: [(0, i4)]) m' Q)) ?_ (fun _ _ h => h)
          generalize hQ1 : (fun v m' => zW E (d) 190 36 [(2, 69), (0, a0), (0, i3), (0, i4)] (if v.1 = 9 then [(0, i4)] else v :: [(0, i4)]) m' Q) = Q1
          show zW E (d - 1) 141 0 [(2, 69)] [] m5 Q1
          refine zw_7 zr_141_0 rfl ?_
          refine zw_46r (s := 70) zr_141_1 rfl rfl rfl rfl ?_
          refine zw_push zr_141_4 ?_
          obtain ⟨f8, ef8⟩ : ∃ v, m5 70 822 = v := ⟨_, rfl⟩
          have bf8 : 0 ≤ m5 70 822 ∧ m5 70 822 ≤ 10 := ib_70_players hIm5 (by omega)
          rw [ef8] at bf8
          refine zw_48k (c := 70) (len := 826) zr_141_7 rfl rfl (by omega) (by omega) (show (822 : Int).toNat = 822 by omega) ef8 ?_
          refine zw_R zr_141_8 (by decide) zm_141 (v := (0, f8)) rfl ?_
          rw [← hQ1]
          show zW E (d) 190 36 [(2, 69), (0, a0), (0, i3), (0, i4)] [(0, f8), (0, i4)] m5 Q
          refine zw_41_3 zr_190_36 ?_ ?_
          · intro h9
            refine zw_3 zr_190_62 rfl ?_
            refine zw_R zr_190_63 (by decide) zm_190 (v := (0, i3)) rfl ?_
            rw [← hQ]; exact ⟨_, rfl, by omega, by omega, hIm5, hFm5⟩
          · intro h10
            refine zw_3 zr_190_39 rfl ?_
            refine zw_7 zr_190_40 rfl ?_
            refine zw_3 zr_190_41 rfl ?_
            refine zw_C zr_190_42 (Or.inl rfl) zm_189 rfl rfl ⟨Nat.le_of_ble_eq_true rfl, Nat.le_of_ble_eq_true rfl, Nat.le_of_ble_eq_true rfl, rfl, by decide⟩ (by omega) (th_189 (d := d - 1) (by omega) hIm5 (a0 := i4)      (by omega) ) ?_
            rintro _ m11 ⟨r12, rfl, hr12a, hr12b, hIm11, gm11⟩
            have hFm11 : zFr W_190 m0 m11 := hFm5.trans gm11 rfl
            have km11_70_822 : m11 70 822 = f8 := (gm11 70 822 rfl).trans ef8
            show zW E (d) 190 45 [(2, 69), (0, a0), (0, i3), (0, i4)] [(0, r12), (0, i3)] m11 Q
            refine zw_3 zr_190_45 rfl ?_
            refine zw_41_4 zr_190_46 ?_ ?_
            · intro h13
              refine zw_push zr_190_53 ?_
              refine zw_16 zr_190_54 (by omega) ?_
              refine zw_9 (L' := [(2, 69), (0, a0), (0, (i3 + 0)), (0, i4)]) zr_190_55 (Nat.le_of_ble_eq_true rfl) rfl ?_
              refine zw_15 (c := 1) (L' := [(2, 69), (0, a0), (0, (i3 + 0)), (0, (i4 + 1))]) zr_190_56 rfl (by decide) (by omega) rfl ?_
              refine zw_42 zr_190_59 ?_
              exact zw_less (L := [(2, 69), (0, a0), (0, (i3 + 0)), (0, (i4 + 1))]) ⟨Or.inr rfl, Or.inr rfl, Or.inr rfl, Or.inr rfl, trivial⟩ (ihlp31_6 ((i3 + 0)) ((i4 + 1)) m11 hIm11 hFm11   (by omega) (by omega) (by omega) (by omega)  (by omega))
            · intro h14
              refine zw_push zr_190_49 ?_
              refine zw_42 zr_190_50 ?_
              refine zw_16h zr_190_54 ?_
              intro x15 hx15a hx15b
              refine zw_9 (L' := [(2, 69), (0, a0), (0, x15), (0, i4)]) zr_190_55 (Nat.le_of_ble_eq_true rfl) rfl ?_
              refine zw_15 (c := 1) (L' := [(2, 69), (0, a0), (0, x15), (0, (i4 + 1))]) zr_190_56 rfl (by decide) (by omega) rfl ?_
              refine zw_42 zr_190_59 ?_
              exact zw_less (L := [(2, 69), (0, a0), (0, x15), (0, (i4 + 1))]) ⟨Or.inr rfl, Or.inr rfl, Or.inr rfl, Or.inr rfl, trivial⟩ (ihlp31_6 (x15) ((i4 + 1)) m11 hIm11 hFm11   (by omega) (by omega) (by omega) (by omega)  (by omega))
      exact lp31_6 _ (0) (0) m0 hI0 hF0   (by omega) (by omega) (by omega) (by omega)  (Nat.lt_succ_self _)
    · intro h16; omega
  · intro h17
    refine zw_7 zr_190_5 rfl ?_
    refine zw_3 zr_190_6 rfl ?_
    refine zw_C zr_190_7 (Or.inl rfl) zm_143 rfl rfl ⟨Nat.le_of_ble_eq_true rfl, Nat.le_of_ble_eq_true rfl, Nat.le_of_ble_eq_true rfl, rfl, by decide⟩ (by omega) (P := (fun v m' => zW E (d) 190 10 [(2, 69), (0, a0), (9, 0), (9, 0)] (if v.1 = 9 then [] else v :: []) m' Q)) ?_ (fun _ _ h => h)
    generalize hQ1 : (fun v m' => zW E (d) 190 10 [(2, 69), (0, a0), (9, 0), (9, 0)] (if v.1 = 9 then [] else v :: []) m' Q) = Q1
    show zW E (d - 1) 143 0 [(2, 69), (0, a0)] [] m0 Q1
    refine zw_3 zr_143_0 rfl ?_
    refine zw_36 zr_143_1 ?_
    refine zw_push zr_143_2 ?_
    refine zw_7 zr_143_3 rfl ?_
    refine zw_C zr_143_4 (Or.inl rfl) zm_141 rfl rfl ⟨Nat.le_of_ble_eq_true rfl, Nat.le_of_ble_eq_true rfl, Nat.le_of_ble_eq_true rfl, rfl, by decide⟩ (by omega) (P := (fun v m' => zW E (d - 1) 143 7 [(2, 69), (0, a0)] (if v.1 = 9 then [(1, 0), (1, a0)] else v :: [(1, 0), (1, a0)]) m' Q1)) ?_ (fun _ _ h => h)
    generalize hQ2 : (fun v m' => zW E (d - 1) 143 7 [(2, 69), (0, a0)] (if v.1 = 9 then [(1, 0), (1, a0)] else v :: [(1, 0), (1, a0)]) m' Q1) = Q2
    show zW E (d - 1 - 1) 141 0 [(2, 69)] [] m0 Q2
    refine zw_7 zr_141_0 rfl ?_
    refine zw_46r (s := 70) zr_141_1 rfl rfl rfl rfl ?_
    refine zw_push zr_141_4 ?_
    obtain ⟨f18, ef18⟩ : ∃ v, m0 70 822 = v := ⟨_, rfl⟩
    have bf18 : 0 ≤ m0 70 822 ∧ m0 70 822 ≤ 10 := ib_70_players hI0 (by omega)
    rw [ef18] at bf18
    refine zw_48k (c := 70) (len := 826) zr_141_7 rfl rfl (by omega) (by omega) (show (822 : Int).toNat = 822 by omega) ef18 ?_
    refine zw_R zr_141_8 (by decide) zm_141 (v := (0, f18)) rfl ?_
    rw [← hQ2]
    show zW E (d - 1) 143 7 [(2, 69), (0, a0)] [(0, f18), (1, 0), (1, a0)] m0 Q1
    refine zw_push zr_143_7 ?_
    refine zw_17 zr_143_8 (by omega) ?_
    refine zw_36 zr_143_9 ?_
    refine zw_C zr_143_10 (Or.inr rfl) zm_140 rfl rfl ⟨Nat.le_of_ble_eq_true rfl, Nat.le_of_ble_eq_true rfl, Nat.le_of_ble_eq_true rfl, rfl, by decide⟩ (by omega) (P := (fun v m' => zW E (d - 1) 143 13 [(2, 69), (0, a0)] (if v.1 = 9 then [] else v :: []) m' Q1)) ?_ (fun _ _ h => h)
    generalize hQ2 : (fun v m' => zW E (d - 1) 143 13 [(2, 69), (0, a0)] (if v.1 = 9 then [] else v :: []) m' Q1) = Q2
    show zW E (d - 1 - 1) 140 0 [(1, a0), (9, 0), (1, 0), (9, 0), (1, (f18 - 1)), (9, 0)] [] m0 Q2
    refine zw_5 zr_140_0 rfl ?_
    refine zw_5 zr_140_1 rfl ?_
    refine zw_39_0 zr_140_2 zr_140_3 ?_ ?_
    · intro h19
      refine zw_push zr_140_17 ?_
      refine zw_R zr_140_18 (by decide) zm_140 (v := (0, 0)) (zRetB (by omega)) ?_
      rw [← hQ2]
      show zW E (d - 1) 143 13 [(2, 69), (0, a0)] [(0, 0)] m0 Q1
      refine zw_R zr_143_13 (by decide) zm_143 (v := (0, 0)) (zRetB (by omega)) ?_
      rw [← hQ1]
      show zW E (d) 190 10 [(2, 69), (0, a0), (9, 0), (9, 0)] [(0, 0)] m0 Q
      refine zw_40_4 zr_190_10 ?_ ?_
      · intro h20; omega
      · intro h21
        refine zw_push zr_190_13 ?_
        refine zw_R zr_190_15 (by decide) zm_190 (v := (0, (-2))) rfl ?_
        rw [← hQ]; exact ⟨_, rfl, by omega, by omega, hI0, hF0⟩
    · intro h22
      refine zw_5 zr_140_6 rfl ?_
      refine zw_6 zr_140_7 rfl ?_
      refine zw_39_2 zr_140_9 zr_140_10 ?_ ?_
      · intro h23
        refine zw_push zr_140_17 ?_
        refine zw_R zr_140_18 (by decide) zm_140 (v := (0, 0)) (zRetB (by omega)) ?_
        rw [← hQ2]
        show zW E (d - 1) 143 13 [(2, 69), (0, a0)] [(0, 0)] m0 Q1
        refine zw_R zr_143_13 (by decide) zm_143 (v := (0, 0)) (zRetB (by omega)) ?_
        rw [← hQ1]
        show zW E (d) 190 10 [(2, 69), (0, a0), (9, 0), (9, 0)] [(0, 0)] m0 Q
        refine zw_40_4 zr_190_10 ?_ ?_
        · intro h24; omega
        · intro h25
          refine zw_push zr_190_13 ?_
          refine zw_R zr_190_15 (by decide) zm_190 (v := (0, (-2))) rfl ?_
          rw [← hQ]; exact ⟨_, rfl, by omega, by omega, hI0, hF0⟩
      · intro h26
        refine zw_push zr_140_13 ?_
        refine zw_42 zr_140_14 ?_
        refine zw_R zr_140_18 (by decide) zm_140 (v := (0, 1)) (zRetB (by omega)) ?_
        rw [← hQ2]
        show zW E (d - 1) 143 13 [(2, 69), (0, a0)] [(0, 1)] m0 Q1
        refine zw_R zr_143_13 (by decide) zm_143 (v := (0, 1)) (zRetB (by omega)) ?_
        rw [← hQ1]
        show zW E (d) 190 10 [(2, 69), (0, a0), (9, 0), (9, 0)] [(0, 1)] m0 Q
        refine zw_40_4 zr_190_10 ?_ ?_
        · intro h27
          refine zw_3 zr_190_16 rfl ?_
          refine zw_push zr_190_17 ?_
          refine zw_41_1 zr_190_18 ?_ ?_
          · intro h28; omega
          · intro h29
            refine zw_7 zr_190_21 rfl ?_
            refine zw_3 zr_190_22 rfl ?_
            refine zw_C zr_190_23 (Or.inl rfl) zm_189 rfl rfl ⟨Nat.le_of_ble_eq_true rfl, Nat.le_of_ble_eq_true rfl, Nat.le_of_ble_eq_true rfl, rfl, by decide⟩ (by omega) (th_189 (d := d - 1) (by omega) hI0 (a0 := a0)      (by omega) ) ?_
            rintro _ m30 ⟨r31, rfl, hr31a, hr31b, hIm30, gm30⟩
            have hFm30 : zFr W_190 m0 m30 := hF0.trans gm30 rfl
            have km30_70_822 : m30 70 822 = f18 := (gm30 70 822 rfl).trans ef18
            show zW E (d) 190 26 [(2, 69), (0, a0), (9, 0), (9, 0)] [(0, r31)] m30 Q
            refine zw_R zr_190_26 (by decide) zm_190 (v := (0, r31)) rfl ?_
            rw [← hQ]; exact ⟨_, rfl, by omega, by omega, hIm30, hFm30⟩
        · intro h32; omega

abbrev W_72 : List (Nat × Nat) := [(61, 1000), (62, 1000)]
set_option maxHeartbeats 8000000 in
theorem th_72 {E : zE} {d : Nat} {m0 : zM} {a0 : Int} {a1 : Int} (hd : 4 ≤ d) (hI0 : zInv m0) (ha0 : 0 ≤ a0 ∧ a0 ≤ 9) (ha1 : 0 ≤ a1 ∧ a1 ≤ 9) : zC E d 72 [(2, 60), (0, a0), (0, a1)] m0 (fun v m' => ∃ r : Int, v = (0, r) ∧ (-2147483648) ≤ r ∧ r ≤ 2147483647 ∧ zInv m' ∧ zFr W_72 m0 m') := by
  have hF0 : zFr W_72 m0 m0 := zFr.rfl
  generalize hQ : (fun (v : zV) (m' : zM) => ∃ r : Int, v = (0, r) ∧ (-2147483648) ≤ r ∧ r ≤ 2147483647 ∧ zInv m' ∧ zFr W_72 m0 m') = Q
  show zW E d 72 0 [(2, 60), (0, a0), (0, a1)] [] m0 Q
  refine zw_7 zr_72_0 rfl ?_
  refine zw_3 zr_72_1 rfl ?_
  refine zw_3 zr_72_2 rfl ?_
  refine zw_C zr_72_3 (Or.inl rfl) zm_68 rfl rfl ⟨Nat.le_of_ble_eq_true rfl, Nat.le_of_ble_eq_true rfl, Nat.le_of_ble_eq_true rfl, rfl, by decide⟩ (by omega) (th_68 (d := d - 1) (by omega) hI0 (a0 := a0) (a1 := a1)      (by omega) (by omega) ) ?_
  rintro _ m1 ⟨r2, rfl, hr2a, hr2b, hIm1, gm1⟩
  have hFm1 : zFr W_72 m0 m1 := hF0.trans gm1 rfl
  show zW E (d) 72 6 [(2, 60), (0, a0), (0, a1)] [(0, r2)] m1 Q
  refine zw_40_1 zr_72_6 ?_ ?_
  · intro h3
    refine zw_push zr_72_18 ?_
    refine zw_R zr_72_20 (by decide) zm_72 (v := (0, (-5))) rfl ?_
    rw [← hQ]; exact ⟨_, rfl, by omega, by omega, hIm1, hFm1⟩
  · intro h4
    refine zw_7 zr_72_9 rfl ?_
    refine zw_46r (s := 62) zr_72_10 rfl rfl rfl rfl ?_
    refine zw_3 zr_72_13 rfl ?_
    refine zw_48 (c := 62) (len := 10) zr_72_14 rfl rfl (by omega) (by omega) ?_
    intro x5 ex5
    have bx5 := hIm1.ra (c := 62) (len := 10) (k := (a0).toNat) rfl (by omega)
    rw [← ex5] at bx5
    clear ex5
    refine zw_42 zr_72_15 ?_
    refine zw_R zr_72_20 (by decide) zm_72 (v := (0, x5)) rfl ?_
    rw [← hQ]; exact ⟨_, rfl, by omega, by omega, hIm1, hFm1⟩

set_option maxHeartbeats 8000000 in
theorem th_73 {E : zE} {d : Nat} {m0 : zM} {a0 : Int} (hd : 1 ≤ d) (hI0 : zInv m0) (ha0 : 0 ≤ a0 ∧ a0 ≤ 9) : zC E d 73 [(2, 60), (0, a0)] m0 (fun v m' => ∃ r : Int, v = (0, r) ∧ 0 ≤ r ∧ r ≤ 9 ∧ m0 = m') := by
  generalize hQ : (fun (v : zV) (m' : zM) => ∃ r : Int, v = (0, r) ∧ 0 ≤ r ∧ r ≤ 9 ∧ m0 = m') = Q
  show zW E d 73 0 [(2, 60), (0, a0), (9, 0)] [] m0 Q
  refine zw_push zr_73_0 ?_
  refine zw_9 (L' := [(2, 60), (0, a0), (0, 0)]) zr_73_1 (Nat.le_of_ble_eq_true rfl) rfl ?_
  have lp2_2 : ∀ (nlp2_2 : Nat) (i1 : Int), 0 ≤ i1 → i1 ≤ 10 → (10 - i1).toNat < nlp2_2 → zW E (d) 73 2 [(2, 60), (0, a0), (0, i1)] [] m0 Q := by
    intro nlp2_2
    induction nlp2_2 with
    | zero =>
      intros
      exact absurd (by assumption : _ < 0) (Nat.not_lt_zero _)
    | succ nlp2_2 ihlp2_2 =>
      intro i1 li1 ui1 hmlp2_2
      refine zw_3 zr_73_2 rfl ?_
      refine zw_7 zr_73_3 rfl ?_
      refine zw_46r (s := 1) zr_73_4 rfl rfl rfl rfl ?_
      obtain ⟨f4, ef4⟩ : ∃ v, m0 1 0 = v := ⟨_, rfl⟩
      have bf4 := ib_1_0 hI0
      rw [ef4] at bf4
      refine zw_46i zr_73_7 ef4 rfl rfl rfl ?_
      refine zw_41_3 zr_73_10 ?_ ?_
      · intro h5
        refine zw_3 zr_73_51 rfl ?_
        refine zw_R zr_73_52 (by decide) zm_73 (v := (0, a0)) rfl ?_
        rw [← hQ]; exact ⟨_, rfl, by omega, by omega, rfl⟩
      · intro h6
        refine zw_7 zr_73_13 rfl ?_
        refine zw_46r (s := 61) zr_73_14 rfl rfl rfl rfl ?_
        refine zw_3 zr_73_17 rfl ?_
        refine zw_48 (c := 61) (len := 10) zr_73_18 rfl rfl (by omega) (by omega) ?_
        intro x7 ex7
        have bx7 := hI0.ra (c := 61) (len := 10) (k := (a0).toNat) rfl (by omega)
        rw [← ex7] at bx7
        clear ex7
        refine zw_3 zr_73_19 rfl ?_
        refine zw_25h zr_73_20 ?_
        intro x8 hx8a hx8b
        refine zw_push zr_73_21 ?_
        refine zw_21m zr_73_22 (by omega) (by omega) ?_
        intro x9 hx9a hx9b
        refine zw_40_1 zr_73_23 ?_ ?_
        · intro h10
          refine zw_15 (c := 1) (L' := [(2, 60), (0, a0), (0, (i1 + 1))]) zr_73_45 rfl (by decide) (by omega) rfl ?_
          refine zw_42 zr_73_48 ?_
          exact zw_less (L := [(2, 60), (0, a0), (0, (i1 + 1))]) ⟨Or.inr rfl, Or.inr rfl, Or.inr rfl, trivial⟩ (ihlp2_2 ((i1 + 1))  (by omega) (by omega)  (by omega))
        · intro h11
          refine zw_7 zr_73_26 rfl ?_
          refine zw_46r (s := 62) zr_73_27 rfl rfl rfl rfl ?_
          refine zw_3 zr_73_30 rfl ?_
          refine zw_48 (c := 62) (len := 10) zr_73_31 rfl rfl (by omega) (by omega) ?_
          intro x12 ex12
          have bx12 := hI0.ra (c := 62) (len := 10) (k := (i1).toNat) rfl (by omega)
          rw [← ex12] at bx12
          clear ex12
          refine zw_7 zr_73_32 rfl ?_
          refine zw_46r (s := 62) zr_73_33 rfl rfl rfl rfl ?_
          refine zw_3 zr_73_36 rfl ?_
          refine zw_48 (c := 62) (len := 10) zr_73_37 rfl rfl (by omega) (by omega) ?_
          intro x13 ex13
          have bx13 := hI0.ra (c := 62) (len := 10) (k := (a0).toNat) rfl (by omega)
          rw [← ex13] at bx13
          clear ex13
          refine zw_push zr_73_38 ?_
          refine zw_17h zr_73_39 ?_
          intro x14 hx14a hx14b
          refine zw_41_4 zr_73_40 ?_ ?_
          · intro h15
            refine zw_15 (c := 1) (L' := [(2, 60), (0, a0), (0, (i1 + 1))]) zr_73_45 rfl (by decide) (by omega) rfl ?_
            refine zw_42 zr_73_48 ?_
            exact zw_less (L := [(2, 60), (0, a0), (0, (i1 + 1))]) ⟨Or.inr rfl, Or.inr rfl, Or.inr rfl, trivial⟩ (ihlp2_2 ((i1 + 1))  (by omega) (by omega)  (by omega))
          · intro h16
            refine zw_3 zr_73_43 rfl ?_
            refine zw_R zr_73_44 (by decide) zm_73 (v := (0, i1)) rfl ?_
            rw [← hQ]; exact ⟨_, rfl, by omega, by omega, rfl⟩
  exact lp2_2 _ (0)  (by omega) (by omega)  (Nat.lt_succ_self _)

set_option maxHeartbeats 8000000 in
theorem th_74 {E : zE} {d : Nat} {m0 : zM} {a0 : Int} {a1 : Int} (hd : 2 ≤ d) (hI0 : zInv m0) (ha0 : 0 ≤ a0 ∧ a0 ≤ 9) (ha1 : 0 ≤ a1 ∧ a1 ≤ 9) : zC E d 74 [(2, 60), (0, a0), (0, a1)] m0 (fun v m' => ∃ r : Int, v = (0, r) ∧ (-5) ≤ r ∧ r ≤ 59 ∧ m0 = m') := by
  generalize hQ : (fun (v : zV) (m' : zM) => ∃ r : Int, v = (0, r) ∧ (-5) ≤ r ∧ r ≤ 59 ∧ m0 = m') = Q
  show zW E d 74 0 [(2, 60), (0, a0), (0, a1), (9, 0), (9, 0), (9, 0)] [] m0 Q
  refine zw_7 zr_74_0 rfl ?_
  refine zw_46r (s := 1) zr_74_1 rfl rfl rfl rfl ?_
  refine zw_C zr_74_4 (Or.inl rfl) zm_53 rfl rfl ⟨Nat.le_of_ble_eq_true rfl, Nat.le_of_ble_eq_true rfl, Nat.le_of_ble_eq_true rfl, rfl, by decide⟩ (by omega) (th_53 (d := d - 1) (by omega) hI0        ) ?_
  rintro _ _ ⟨r1, rfl, hr1a, hr1b, rfl⟩
  show zW E (d) 74 7 [(2, 60), (0, a0), (0, a1), (9, 0), (9, 0), (9, 0)] [(1, r1)] m0 Q
  refine zw_13 (L' := [(2, 60), (0, a0), (0, a1), (1, r1), (9, 0), (9, 0)]) zr_74_7 (Nat.le_of_ble_eq_true rfl) rfl ?_
  refine zw_push zr_74_8 ?_
  refine zw_10 (L' := [(2, 60), (0, a0), (0, a1), (1, r1), (9, 0), (0, 0)]) zr_74_9 (Nat.le_of_ble_eq_true rfl) rfl ?_
  have lp11_3 : ∀ (nlp11_3 : Nat) (i2 : Int), 0 ≤ i2 → i2 ≤ 60 → (60 - i2).toNat < nlp11_3 → zW E (d) 74 11 [(2, 60), (0, a0), (0, a1), (1, r1), (9, 0), (0, i2)] [] m0 Q := by
    intro nlp11_3
    induction nlp11_3 with
    | zero =>
      intros
      exact absurd (by assumption : _ < 0) (Nat.not_lt_zero _)
    | succ nlp11_3 ihlp11_3 =>
      intro i2 li2 ui2 hmlp11_3
      refine zw_4 zr_74_11 rfl ?_
      refine zw_7 zr_74_13 rfl ?_
      refine zw_46r (s := 1) zr_74_14 rfl rfl rfl rfl ?_
      obtain ⟨f5, ef5⟩ : ∃ v, m0 1 1 = v := ⟨_, rfl⟩
      have bf5 := ib_1_1 hI0
      rw [ef5] at bf5
      refine zw_46i zr_74_17 ef5 rfl rfl rfl ?_
      refine zw_41_3 zr_74_20 ?_ ?_
      · intro h6
        refine zw_push zr_74_69 ?_
        refine zw_R zr_74_71 (by decide) zm_74 (v := (0, (-5))) rfl ?_
        rw [← hQ]; exact ⟨_, rfl, by omega, by omega, rfl⟩
      · intro h7
        refine zw_5 zr_74_23 rfl ?_
        refine zw_4 zr_74_24 rfl ?_
        refine zw_34h zr_74_26 ?_
        intro x8 hx8a hx8b
        refine zw_push zr_74_27 ?_
        refine zw_30h zr_74_28 ?_
        intro x9 hx9a hx9b
        refine zw_push zr_74_29 ?_
        refine zw_39_1 zr_74_30 zr_74_31 ?_ ?_
        · intro h10
          refine zw_15 (c := 1) (L' := [(2, 60), (0, a0), (0, a1), (1, r1), (9, 0), (0, (i2 + 1))]) zr_74_63 rfl (by decide) (by omega) rfl ?_
          refine zw_42 zr_74_66 ?_
          exact zw_less (L := [(2, 60), (0, a0), (0, a1), (1, r1), (9, 0), (0, (i2 + 1))]) ⟨Or.inr rfl, Or.inr rfl, Or.inr rfl, Or.inr rfl, Or.inl rfl, Or.inr rfl, trivial⟩ (ihlp11_3 ((i2 + 1))  (by omega) (by omega)  (by omega))
        · intro h11
          refine zw_7 zr_74_34 rfl ?_
          refine zw_46r (s := 1) zr_74_35 rfl rfl rfl rfl ?_
          refine zw_4 zr_74_38 rfl ?_
          refine zw_3 zr_74_40 rfl ?_
          refine zw_C zr_74_41 (Or.inl rfl) zm_44 rfl rfl ⟨Nat.le_of_ble_eq_true rfl, Nat.le_of_ble_eq_true rfl, Nat.le_of_ble_eq_true rfl, rfl, by decide⟩ (by omega) (P := (fun v m' => zW E (d) 74 44 [(2, 60), (0, a0), (0, a1), (1, r1), (9, 0), (0, i2)] (if v.1 = 9 then [] else v :: []) m' Q)) ?_ (fun _ _ h => h)
          generalize hQ1 : (fun v m' => zW E (d) 74 44 [(2, 60), (0, a0), (0, a1), (1, r1), (9, 0), (0, i2)] (if v.1 = 9 then [] else v :: []) m' Q) = Q1
          show zW E (d - 1) 44 0 [(2, 1), (0, i2), (0, a0)] [] m0 Q1
          refine zw_7 zr_44_0 rfl ?_
          refine zw_46r (s := 6) zr_44_1 rfl rfl rfl rfl ?_
          refine zw_3 zr_44_4 rfl ?_
          refine zw_48 (c := 6) (len := 60) zr_44_5 rfl rfl (by omega) (by omega) ?_
          intro x12 ex12
          have bx12 := ib_6 hI0 (k := (i2).toNat) (by omega)
          rw [← ex12] at bx12
          refine zw_3 zr_44_6 rfl ?_
          refine zw_41_1 zr_44_7 ?_ ?_
          · intro h13
            refine zw_push zr_44_20 ?_
            refine zw_42 zr_44_21 ?_
            refine zw_R zr_44_25 (by decide) zm_44 (v := (0, 1)) (zRetB (by omega)) ?_
            rw [← hQ1]
            show zW E (d) 74 44 [(2, 60), (0, a0), (0, a1), (1, r1), (9, 0), (0, i2)] [(0, 1)] m0 Q
            refine zw_40_1 zr_74_44 ?_ ?_
            · intro h14; omega
            · intro h15
              refine zw_7 zr_74_47 rfl ?_
              refine zw_46r (s := 1) zr_74_48 rfl rfl rfl rfl ?_
              refine zw_4 zr_74_51 rfl ?_
              refine zw_3 zr_74_53 rfl ?_
              refine zw_C zr_74_54 (Or.inl rfl) zm_44 rfl rfl ⟨Nat.le_of_ble_eq_true rfl, Nat.le_of_ble_eq_true rfl, Nat.le_of_ble_eq_true rfl, rfl, by decide⟩ (by omega) (P := (fun v m' => zW E (d) 74 57 [(2, 60), (0, a0), (0, a1), (1, r1), (9, 0), (0, i2)] (if v.1 = 9 then [] else v :: []) m' Q)) ?_ (fun _ _ h => h)
              generalize hQ1 : (fun v m' => zW E (d) 74 57 [(2, 60), (0, a0), (0, a1), (1, r1), (9, 0), (0, i2)] (if v.1 = 9 then [] else v :: []) m' Q) = Q1
              show zW E (d - 1) 44 0 [(2, 1), (0, i2), (0, a1)] [] m0 Q1
              refine zw_7 zr_44_0 rfl ?_
              refine zw_46r (s := 6) zr_44_1 rfl rfl rfl rfl ?_
              refine zw_3 zr_44_4 rfl ?_
              refine zw_48k (c := 6) (len := 60) zr_44_5 rfl rfl (by omega) (by omega) rfl ex12.symm ?_
              refine zw_3 zr_44_6 rfl ?_
              refine zw_41_1 zr_44_7 ?_ ?_
              · intro h16
                refine zw_push zr_44_20 ?_
                refine zw_42 zr_44_21 ?_
                refine zw_R zr_44_25 (by decide) zm_44 (v := (0, 1)) (zRetB (by omega)) ?_
                rw [← hQ1]
                show zW E (d) 74 57 [(2, 60), (0, a0), (0, a1), (1, r1), (9, 0), (0, i2)] [(0, 1)] m0 Q
                refine zw_40_1 zr_74_57 ?_ ?_
                · intro h17; omega
                · intro h18
                  refine zw_4 zr_74_60 rfl ?_
                  refine zw_R zr_74_62 (by decide) zm_74 (v := (0, i2)) rfl ?_
                  rw [← hQ]; exact ⟨_, rfl, by omega, by omega, rfl⟩
              · intro h19
                refine zw_7 zr_44_10 rfl ?_
                refine zw_46r (s := 7) zr_44_11 rfl rfl rfl rfl ?_
                refine zw_3 zr_44_14 rfl ?_
                refine zw_48 (c := 7) (len := 60) zr_44_15 rfl rfl (by omega) (by omega) ?_
                intro x20 ex20
                have bx20 := ib_7 hI0 (k := (i2).toNat) (by omega)
                rw [← ex20] at bx20
                refine zw_3 zr_44_16 rfl ?_
                refine zw_41_4 zr_44_17 ?_ ?_
                · intro h21
                  refine zw_push zr_44_24 ?_
                  refine zw_R zr_44_25 (by decide) zm_44 (v := (0, 0)) (zRetB (by omega)) ?_
                  rw [← hQ1]
                  show zW E (d) 74 57 [(2, 60), (0, a0), (0, a1), (1, r1), (9, 0), (0, i2)] [(0, 0)] m0 Q
                  refine zw_40_1 zr_74_57 ?_ ?_
                  · intro h22
                    refine zw_15 (c := 1) (L' := [(2, 60), (0, a0), (0, a1), (1, r1), (9, 0), (0, (i2 + 1))]) zr_74_63 rfl (by decide) (by omega) rfl ?_
                    refine zw_42 zr_74_66 ?_
                    exact zw_less (L := [(2, 60), (0, a0), (0, a1), (1, r1), (9, 0), (0, (i2 + 1))]) ⟨Or.inr rfl, Or.inr rfl, Or.inr rfl, Or.inr rfl, Or.inl rfl, Or.inr rfl, trivial⟩ (ihlp11_3 ((i2 + 1))  (by omega) (by omega)  (by omega))
                  · intro h23; omega
                · intro h24
                  refine zw_push zr_44_20 ?_
                  refine zw_42 zr_44_21 ?_
                  refine zw_R zr_44_25 (by decide) zm_44 (v := (0, 1)) (zRetB (by omega)) ?_
                  rw [← hQ1]
                  show zW E (d) 74 57 [(2, 60), (0, a0), (0, a1), (1, r1), (9, 0), (0, i2)] [(0, 1)] m0 Q
                  refine zw_40_1 zr_74_57 ?_ ?_
                  · intro h25; omega
                  · intro h26
                    refine zw_4 zr_74_60 rfl ?_
                    refine zw_R zr_74_62 (by decide) zm_74 (v := (0, i2)) rfl ?_
                    rw [← hQ]; exact ⟨_, rfl, by omega, by omega, rfl⟩
          · intro h27
            refine zw_7 zr_44_10 rfl ?_
            refine zw_46r (s := 7) zr_44_11 rfl rfl rfl rfl ?_
            refine zw_3 zr_44_14 rfl ?_
            refine zw_48 (c := 7) (len := 60) zr_44_15 rfl rfl (by omega) (by omega) ?_
            intro x28 ex28
            have bx28 := ib_7 hI0 (k := (i2).toNat) (by omega)
            rw [← ex28] at bx28
            refine zw_3 zr_44_16 rfl ?_
            refine zw_41_4 zr_44_17 ?_ ?_
            · intro h29
              refine zw_push zr_44_24 ?_
              refine zw_R zr_44_25 (by decide) zm_44 (v := (0, 0)) (zRetB (by omega)) ?_
              rw [← hQ1]
              show zW E (d) 74 44 [(2, 60), (0, a0), (0, a1), (1, r1), (9, 0), (0, i2)] [(0, 0)] m0 Q
              refine zw_40_1 zr_74_44 ?_ ?_
              · intro h30
                refine zw_15 (c := 1) (L' := [(2, 60), (0, a0), (0, a1), (1, r1), (9, 0), (0, (i2 + 1))]) zr_74_63 rfl (by decide) (by omega) rfl ?_
                refine zw_42 zr_74_66 ?_
                exact zw_less (L := [(2, 60), (0, a0), (0, a1), (1, r1), (9, 0), (0, (i2 + 1))]) ⟨Or.inr rfl, Or.inr rfl, Or.inr rfl, Or.inr rfl, Or.inl rfl, Or.inr rfl, trivial⟩ (ihlp11_3 ((i2 + 1))  (by omega) (by omega)  (by omega))
              · intro h31; omega
            · intro h32
              refine zw_push zr_44_20 ?_
              refine zw_42 zr_44_21 ?_
              refine zw_R zr_44_25 (by decide) zm_44 (v := (0, 1)) (zRetB (by omega)) ?_
              rw [← hQ1]
              show zW E (d) 74 44 [(2, 60), (0, a0), (0, a1), (1, r1), (9, 0), (0, i2)] [(0, 1)] m0 Q
              refine zw_40_1 zr_74_44 ?_ ?_
              · intro h33; omega
              · intro h34
                refine zw_7 zr_74_47 rfl ?_
                refine zw_46r (s := 1) zr_74_48 rfl rfl rfl rfl ?_
                refine zw_4 zr_74_51 rfl ?_
                refine zw_3 zr_74_53 rfl ?_
                refine zw_C zr_74_54 (Or.inl rfl) zm_44 rfl rfl ⟨Nat.le_of_ble_eq_true rfl, Nat.le_of_ble_eq_true rfl, Nat.le_of_ble_eq_true rfl, rfl, by decide⟩ (by omega) (P := (fun v m' => zW E (d) 74 57 [(2, 60), (0, a0), (0, a1), (1, r1), (9, 0), (0, i2)] (if v.1 = 9 then [] else v :: []) m' Q)) ?_ (fun _ _ h => h)
                generalize hQ1 : (fun v m' => zW E (d) 74 57 [(2, 60), (0, a0), (0, a1), (1, r1), (9, 0), (0, i2)] (if v.1 = 9 then [] else v :: []) m' Q) = Q1
                show zW E (d - 1) 44 0 [(2, 1), (0, i2), (0, a1)] [] m0 Q1
                refine zw_7 zr_44_0 rfl ?_
                refine zw_46r (s := 6) zr_44_1 rfl rfl rfl rfl ?_
                refine zw_3 zr_44_4 rfl ?_
                refine zw_48k (c := 6) (len := 60) zr_44_5 rfl rfl (by omega) (by omega) rfl ex12.symm ?_
                refine zw_3 zr_44_6 rfl ?_
                refine zw_41_1 zr_44_7 ?_ ?_
                · intro h35
                  refine zw_push zr_44_20 ?_
                  refine zw_42 zr_44_21 ?_
                  refine zw_R zr_44_25 (by decide) zm_44 (v := (0, 1)) (zRetB (by omega)) ?_
                  rw [← hQ1]
                  show zW E (d) 74 57 [(2, 60), (0, a0), (0, a1), (1, r1), (9, 0), (0, i2)] [(0, 1)] m0 Q
                  refine zw_40_1 zr_74_57 ?_ ?_
                  · intro h36; omega
                  · intro h37
                    refine zw_4 zr_74_60 rfl ?_
                    refine zw_R zr_74_62 (by decide) zm_74 (v := (0, i2)) rfl ?_
                    rw [← hQ]; exact ⟨_, rfl, by omega, by omega, rfl⟩
                · intro h38
                  refine zw_7 zr_44_10 rfl ?_
                  refine zw_46r (s := 7) zr_44_11 rfl rfl rfl rfl ?_
                  refine zw_3 zr_44_14 rfl ?_
                  refine zw_48k (c := 7) (len := 60) zr_44_15 rfl rfl (by omega) (by omega) rfl ex28.symm ?_
                  refine zw_3 zr_44_16 rfl ?_
                  refine zw_41_4 zr_44_17 ?_ ?_
                  · intro h39
                    refine zw_push zr_44_24 ?_
                    refine zw_R zr_44_25 (by decide) zm_44 (v := (0, 0)) (zRetB (by omega)) ?_
                    rw [← hQ1]
                    show zW E (d) 74 57 [(2, 60), (0, a0), (0, a1), (1, r1), (9, 0), (0, i2)] [(0, 0)] m0 Q
                    refine zw_40_1 zr_74_57 ?_ ?_
                    · intro h40
                      refine zw_15 (c := 1) (L' := [(2, 60), (0, a0), (0, a1), (1, r1), (9, 0), (0, (i2 + 1))]) zr_74_63 rfl (by decide) (by omega) rfl ?_
                      refine zw_42 zr_74_66 ?_
                      exact zw_less (L := [(2, 60), (0, a0), (0, a1), (1, r1), (9, 0), (0, (i2 + 1))]) ⟨Or.inr rfl, Or.inr rfl, Or.inr rfl, Or.inr rfl, Or.inl rfl, Or.inr rfl, trivial⟩ (ihlp11_3 ((i2 + 1))  (by omega) (by omega)  (by omega))
                    · intro h41; omega
                  · intro h42
                    refine zw_push zr_44_20 ?_
                    refine zw_42 zr_44_21 ?_
                    refine zw_R zr_44_25 (by decide) zm_44 (v := (0, 1)) (zRetB (by omega)) ?_
                    rw [← hQ1]
                    show zW E (d) 74 57 [(2, 60), (0, a0), (0, a1), (1, r1), (9, 0), (0, i2)] [(0, 1)] m0 Q
                    refine zw_40_1 zr_74_57 ?_ ?_
                    · intro h43; omega
                    · intro h44
                      refine zw_4 zr_74_60 rfl ?_
                      refine zw_R zr_74_62 (by decide) zm_74 (v := (0, i2)) rfl ?_
                      rw [← hQ]; exact ⟨_, rfl, by omega, by omega, rfl⟩
  exact lp11_3 _ (0)  (by omega) (by omega)  (Nat.lt_succ_self _)
