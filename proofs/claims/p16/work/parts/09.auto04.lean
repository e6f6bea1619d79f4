abbrev W_112 : List (Nat × Nat) := [(43, 5), (44, 1000), (45, 1), (45, 5), (45, 6), (45, 7), (45, 8), (45, 9), (46, 1000), (47, 1000), (48, 1000), (49, 1000), (50, 1000), (51, 1000)]
set_option maxHeartbeats 8000000 in
theorem th_112 {E : zE} {d : Nat} {m0 : zM} {a0 : Int} {a1 : Int} {a2 : Int} (hd : 96 ≤ d) (hI0 : zInv m0) (ha0 : (-2147483648) ≤ a0 ∧ a0 ≤ 2147483647) (ha1 : (-2147483648) ≤ a1 ∧ a1 ≤ 2147483647) (ha2 : (-2147483648) ≤ a2 ∧ a2 ≤ 2147483647) : zC E d 112 [(2, 0), (0, a0), (0, a1), (0, a2)] m0 (fun v m' => ∃ r : Int, v = (0, r) ∧ (-2147483648) ≤ r ∧ r ≤ 2147483647 ∧ zInv m' ∧ zFr W_112 m0 m') := by
  have hF0 : zFr W_112 m0 m0 := zFr.rfl
  generalize hQ : (fun (v : zV) (m' : zM) => ∃ r : Int, v = (0, r) ∧ (-2147483648) ≤ r ∧ r ≤ 2147483647 ∧ zInv m' ∧ zFr W_112 m0 m') = Q
  show zW E d 112 0 [(2, 0), (0, a0), (0, a1), (0, a2), (9, 0)] [] m0 Q
  refine zw_3 zr_112_0 rfl ?_
  refine zw_C zr_112_1 (Or.inr rfl) zm_104 rfl rfl ⟨Nat.le_of_ble_eq_true rfl, Nat.le_of_ble_eq_true rfl, Nat.le_of_ble_eq_true rfl, rfl, by decide⟩ (by omega) (P := (fun v m' => zW E (d) 112 4 [(2, 0), (0, a0), (0, a1), (0, a2), (9, 0)] (if v.1 = 9 then [] else v :: []) m' Q)) ?_ (fun _ _ h => h)
  generalize hQ1 : (fun v m' => zW E (d) 112 4 [(2, 0), (0, a0), (0, a1), (0, a2), (9, 0)] (if v.1 = 9 then [] else v :: []) m' Q) = Q1
  show zW E (d - 1) 104 0 [(0, a0)] [] m0 Q1
  refine zw_3 zr_104_0 rfl ?_
  refine zw_push zr_104_1 ?_
  refine zw_push zr_104_2 ?_
  refine zw_C zr_104_3 (Or.inr rfl) zm_100 rfl rfl ⟨Nat.le_of_ble_eq_true rfl, Nat.le_of_ble_eq_true rfl, Nat.le_of_ble_eq_true rfl, rfl, by decide⟩ (by omega) (P := (fun v m' => zW E (d - 1) 104 6 [(0, a0)] (if v.1 = 9 then [] else v :: []) m' Q1)) ?_ (fun _ _ h => h)
  generalize hQ2 : (fun v m' => zW E (d - 1) 104 6 [(0, a0)] (if v.1 = 9 then [] else v :: []) m' Q1) = Q2
  show zW E (d - 1 - 1) 100 0 [(0, a0), (0, 0), (0, 3)] [] m0 Q2
  refine zw_3 zr_100_0 rfl ?_
  refine zw_3 zr_100_1 rfl ?_
  refine zw_41_0 zr_100_2 ?_ ?_
  · intro h1
    refine zw_push zr_100_14 ?_
    refine zw_R zr_100_15 (by decide) zm_100 (v := (0, 0)) (zRetB (by omega)) ?_
    rw [← hQ2]
    show zW E (d - 1) 104 6 [(0, a0)] [(0, 0)] m0 Q1
    refine zw_R zr_104_6 (by decide) zm_104 (v := (0, 0)) (zRetB (by omega)) ?_
    rw [← hQ1]
    show zW E (d) 112 4 [(2, 0), (0, a0), (0, a1), (0, a2), (9, 0)] [(0, 0)] m0 Q
    refine zw_40_1 zr_112_4 ?_ ?_
    · intro h2
      refine zw_push zr_112_25 ?_
      refine zw_R zr_112_27 (by decide) zm_112 (v := (0, (-100000))) rfl ?_
      rw [← hQ]; exact ⟨_, rfl, by omega, by omega, hI0, hF0⟩
    · intro h3; omega
  · intro h4
    refine zw_3 zr_100_5 rfl ?_
    refine zw_3 zr_100_6 rfl ?_
    refine zw_41_2 zr_100_7 ?_ ?_
    · intro h5
      refine zw_push zr_100_14 ?_
      refine zw_R zr_100_15 (by decide) zm_100 (v := (0, 0)) (zRetB (by omega)) ?_
      rw [← hQ2]
      show zW E (d - 1) 104 6 [(0, a0)] [(0, 0)] m0 Q1
      refine zw_R zr_104_6 (by decide) zm_104 (v := (0, 0)) (zRetB (by omega)) ?_
      rw [← hQ1]
      show zW E (d) 112 4 [(2, 0), (0, a0), (0, a1), (0, a2), (9, 0)] [(0, 0)] m0 Q
      refine zw_40_1 zr_112_4 ?_ ?_
      · intro h6
        refine zw_push zr_112_25 ?_
        refine zw_R zr_112_27 (by decide) zm_112 (v := (0, (-100000))) rfl ?_
        rw [← hQ]; exact ⟨_, rfl, by omega, by omega, hI0, hF0⟩
      · intro h7; omega
    · intro h8
      refine zw_push zr_100_10 ?_
      refine zw_42 zr_100_11 ?_
      refine zw_R zr_100_15 (by decide) zm_100 (v := (0, 1)) (zRetB (by omega)) ?_
      rw [← hQ2]
      show zW E (d - 1) 104 6 [(0, a0)] [(0, 1)] m0 Q1
      refine zw_R zr_104_6 (by decide) zm_104 (v := (0, 1)) (zRetB (by omega)) ?_
      rw [← hQ1]
      show zW E (d) 112 4 [(2, 0), (0, a0), (0, a1), (0, a2), (9, 0)] [(0, 1)] m0 Q
      refine zw_40_1 zr_112_4 ?_ ?_
      · intro h9; omega
      · intro h10
        refine zw_7 zr_112_7 rfl ?_
        refine zw_46r (s := 1) zr_112_8 rfl rfl rfl rfl ?_
        refine zw_3 zr_112_11 rfl ?_
        refine zw_C zr_112_12 (Or.inl rfl) zm_49 rfl rfl ⟨Nat.le_of_ble_eq_true rfl, Nat.le_of_ble_eq_true rfl, Nat.le_of_ble_eq_true rfl, rfl, by decide⟩ (by omega) (P := (fun v m' => zW E (d) 112 15 [(2, 0), (0, a0), (0, a1), (0, a2), (9, 0)] (if v.1 = 9 then [] else v :: []) m' Q)) ?_ (fun _ _ h => h)
        generalize hQ1 : (fun v m' => zW E (d) 112 15 [(2, 0), (0, a0), (0, a1), (0, a2), (9, 0)] (if v.1 = 9 then [] else v :: []) m' Q) = Q1
        show zW E (d - 1) 49 0 [(2, 1), (0, a1)] [] m0 Q1
        refine zw_3 zr_49_0 rfl ?_
        refine zw_40_0 zr_49_1 ?_ ?_
        · intro h11
          refine zw_push zr_49_16 ?_
          refine zw_R zr_49_17 (by decide) zm_49 (v := (0, 0)) (zRetB (by omega)) ?_
          rw [← hQ1]
          show zW E (d) 112 15 [(2, 0), (0, a0), (0, a1), (0, a2), (9, 0)] [(0, 0)] m0 Q
          refine zw_40_1 zr_112_15 ?_ ?_
          · intro h12
            refine zw_push zr_112_25 ?_
            refine zw_R zr_112_27 (by decide) zm_112 (v := (0, (-100000))) rfl ?_
            rw [← hQ]; exact ⟨_, rfl, by omega, by omega, hI0, hF0⟩
          · intro h13; omega
        · intro h14
          refine zw_3 zr_49_4 rfl ?_
          refine zw_7 zr_49_5 rfl ?_
          obtain ⟨f15, ef15⟩ : ∃ v, m0 1 0 = v := ⟨_, rfl⟩
          have bf15 := ib_1_0 hI0
          rw [ef15] at bf15
          refine zw_46i zr_49_6 ef15 rfl rfl rfl ?_
          refine zw_41_3 zr_49_9 ?_ ?_
          · intro h16
            refine zw_push zr_49_16 ?_
            refine zw_R zr_49_17 (by decide) zm_49 (v := (0, 0)) (zRetB (by omega)) ?_
            rw [← hQ1]
            show zW E (d) 112 15 [(2, 0), (0, a0), (0, a1), (0, a2), (9, 0)] [(0, 0)] m0 Q
            refine zw_40_1 zr_112_15 ?_ ?_
            · intro h17
              refine zw_push zr_112_25 ?_
              refine zw_R zr_112_27 (by decide) zm_112 (v := (0, (-100000))) rfl ?_
              rw [← hQ]; exact ⟨_, rfl, by omega, by omega, hI0, hF0⟩
            · intro h18; omega
          · intro h19
            refine zw_push zr_49_12 ?_
            refine zw_42 zr_49_13 ?_
            refine zw_R zr_49_17 (by decide) zm_49 (v := (0, 1)) (zRetB (by omega)) ?_
            rw [← hQ1]
            show zW E (d) 112 15 [(2, 0), (0, a0), (0, a1), (0, a2), (9, 0)] [(0, 1)] m0 Q
            refine zw_40_1 zr_112_15 ?_ ?_
            · intro h20; omega
            · intro h21
              refine zw_3 zr_112_18 rfl ?_
              refine zw_C zr_112_19 (Or.inr rfl) zm_101 rfl rfl ⟨Nat.le_of_ble_eq_true rfl, Nat.le_of_ble_eq_true rfl, Nat.le_of_ble_eq_true rfl, rfl, by decide⟩ (by omega) (P := (fun v m' => zW E (d) 112 22 [(2, 0), (0, a0), (0, a1), (0, a2), (9, 0)] (if v.1 = 9 then [] else v :: []) m' Q)) ?_ (fun _ _ h => h)
              generalize hQ1 : (fun v m' => zW E (d) 112 22 [(2, 0), (0, a0), (0, a1), (0, a2), (9, 0)] (if v.1 = 9 then [] else v :: []) m' Q) = Q1
              show zW E (d - 1) 101 0 [(0, a2)] [] m0 Q1
              refine zw_3 zr_101_0 rfl ?_
              refine zw_push zr_101_1 ?_
              refine zw_push zr_101_2 ?_
              refine zw_C zr_101_4 (Or.inr rfl) zm_100 rfl rfl ⟨Nat.le_of_ble_eq_true rfl, Nat.le_of_ble_eq_true rfl, Nat.le_of_ble_eq_true rfl, rfl, by decide⟩ (by omega) (P := (fun v m' => zW E (d - 1) 101 7 [(0, a2)] (if v.1 = 9 then [] else v :: []) m' Q1)) ?_ (fun _ _ h => h)
              generalize hQ2 : (fun v m' => zW E (d - 1) 101 7 [(0, a2)] (if v.1 = 9 then [] else v :: []) m' Q1) = Q2
              show zW E (d - 1 - 1) 100 0 [(0, a2), (0, 0), (0, 99)] [] m0 Q2
              refine zw_3 zr_100_0 rfl ?_
              refine zw_3 zr_100_1 rfl ?_
              refine zw_41_0 zr_100_2 ?_ ?_
              · intro h22
                refine zw_push zr_100_14 ?_
                refine zw_R zr_100_15 (by decide) zm_100 (v := (0, 0)) (zRetB (by omega)) ?_
                rw [← hQ2]
                show zW E (d - 1) 101 7 [(0, a2)] [(0, 0)] m0 Q1
                refine zw_R zr_101_7 (by decide) zm_101 (v := (0, 0)) (zRetB (by omega)) ?_
                rw [← hQ1]
                show zW E (d) 112 22 [(2, 0), (0, a0), (0, a1), (0, a2), (9, 0)] [(0, 0)] m0 Q
                refine zw_40_4 zr_112_22 ?_ ?_
                · intro h23; omega
                · intro h24
                  refine zw_push zr_112_25 ?_
                  refine zw_R zr_112_27 (by decide) zm_112 (v := (0, (-100000))) rfl ?_
                  rw [← hQ]; exact ⟨_, rfl, by omega, by omega, hI0, hF0⟩
              · intro h25
                refine zw_3 zr_100_5 rfl ?_
                refine zw_3 zr_100_6 rfl ?_
                refine zw_41_2 zr_100_7 ?_ ?_
                · intro h26
                  refine zw_push zr_100_14 ?_
                  refine zw_R zr_100_15 (by decide) zm_100 (v := (0, 0)) (zRetB (by omega)) ?_
                  rw [← hQ2]
                  show zW E (d - 1) 101 7 [(0, a2)] [(0, 0)] m0 Q1
                  refine zw_R zr_101_7 (by decide) zm_101 (v := (0, 0)) (zRetB (by omega)) ?_
                  rw [← hQ1]
                  show zW E (d) 112 22 [(2, 0), (0, a0), (0, a1), (0, a2), (9, 0)] [(0, 0)] m0 Q
                  refine zw_40_4 zr_112_22 ?_ ?_
                  · intro h27; omega
                  · intro h28
                    refine zw_push zr_112_25 ?_
                    refine zw_R zr_112_27 (by decide) zm_112 (v := (0, (-100000))) rfl ?_
                    rw [← hQ]; exact ⟨_, rfl, by omega, by omega, hI0, hF0⟩
                · intro h29
                  refine zw_push zr_100_10 ?_
                  refine zw_42 zr_100_11 ?_
                  refine zw_R zr_100_15 (by decide) zm_100 (v := (0, 1)) (zRetB (by omega)) ?_
                  rw [← hQ2]
                  show zW E (d - 1) 101 7 [(0, a2)] [(0, 1)] m0 Q1
                  refine zw_R zr_101_7 (by decide) zm_101 (v := (0, 1)) (zRetB (by omega)) ?_
                  rw [← hQ1]
                  show zW E (d) 112 22 [(2, 0), (0, a0), (0, a1), (0, a2), (9, 0)] [(0, 1)] m0 Q
                  refine zw_40_4 zr_112_22 ?_ ?_
                  · intro h30
                    refine zw_7 zr_112_28 rfl ?_
                    refine zw_46r (s := 43) zr_112_29 rfl rfl rfl rfl ?_
                    refine zw_3 zr_112_32 rfl ?_
                    refine zw_3 zr_112_33 rfl ?_
                    refine zw_3 zr_112_34 rfl ?_
                    refine zw_C zr_112_35 (Or.inl rfl) zm_45 rfl rfl ⟨Nat.le_of_ble_eq_true rfl, Nat.le_of_ble_eq_true rfl, Nat.le_of_ble_eq_true rfl, rfl, by decide⟩ (by omega) (th_45 (d := d - 1) (by omega) hI0 (a0 := a0) (a1 := a1) (a2 := a2)   (by omega) (by omega) (by omega)) ?_
                    rintro _ m31 ⟨r32, rfl, hr32a, hr32b, hIm31, gm31⟩
                    have hFm31 : zFr W_112 m0 m31 := hF0.trans gm31 rfl
                    have km31_1_0 : m31 1 0 = f15 := (gm31 1 0 rfl).trans ef15
                    show zW E (d) 112 38 [(2, 0), (0, a0), (0, a1), (0, a2), (9, 0)] [(0, r32)] m31 Q
                    refine zw_10 (L' := [(2, 0), (0, a0), (0, a1), (0, a2), (0, r32)]) zr_112_38 (Nat.le_of_ble_eq_true rfl) rfl ?_
                    refine zw_7 zr_112_40 rfl ?_
                    refine zw_46r (s := 43) zr_112_41 rfl rfl rfl rfl ?_
                    refine zw_3 zr_112_44 rfl ?_
                    refine zw_C zr_112_45 (Or.inl rfl) zm_16 rfl rfl ⟨Nat.le_of_ble_eq_true rfl, Nat.le_of_ble_eq_true rfl, Nat.le_of_ble_eq_true rfl, rfl, by decide⟩ (by omega) (th_16 (d := d - 1) (by omega) hIm31 (a0 := a0)   (by omega)) ?_
                    rintro _ m33 ⟨rfl, hIm33, gm33⟩
                    have hFm33 : zFr W_112 m0 m33 := hFm31.trans gm33 rfl
                    have km33_1_0 : m33 1 0 = f15 := (gm33 1 0 rfl).trans km31_1_0
                    show zW E (d) 112 48 [(2, 0), (0, a0), (0, a1), (0, a2), (0, r32)] [] m33 Q
                    refine zw_7 zr_112_48 rfl ?_
                    refine zw_46r (s := 43) zr_112_49 rfl rfl rfl rfl ?_
                    refine zw_7 zr_112_52 rfl ?_
                    refine zw_46r (s := 1) zr_112_53 rfl rfl rfl rfl ?_
                    obtain ⟨f34, ef34⟩ : ∃ v, m33 1 1 = v := ⟨_, rfl⟩
                    have bf34 := ib_1_1 hIm33
                    rw [ef34] at bf34
                    refine zw_46i zr_112_56 ef34 rfl rfl rfl ?_
                    refine zw_C zr_112_59 (Or.inl rfl) zm_41 rfl rfl ⟨Nat.le_of_ble_eq_true rfl, Nat.le_of_ble_eq_true rfl, Nat.le_of_ble_eq_true rfl, rfl, by decide⟩ (by omega) (th_41 (d := d - 1) (by omega) hIm33 (a0 := f34)   (by omega)) ?_
                    rintro _ m35 ⟨rfl, hIm35, gm35⟩
                    have hFm35 : zFr W_112 m0 m35 := hFm33.trans gm35 rfl
                    have km35_1_0 : m35 1 0 = f15 := (gm35 1 0 rfl).trans km33_1_0
                    have km35_1_1 : m35 1 1 = f34 := (gm35 1 1 rfl).trans ef34
                    show zW E (d) 112 62 [(2, 0), (0, a0), (0, a1), (0, a2), (0, r32)] [] m35 Q
                    refine zw_4 zr_112_62 rfl ?_
                    refine zw_7 zr_112_64 rfl ?_
                    refine zw_46r (s := 43) zr_112_65 rfl rfl rfl rfl ?_
                    refine zw_46r (s := 44) zr_112_68 rfl rfl rfl rfl ?_
                    refine zw_3 zr_112_71 rfl ?_
                    refine zw_48 (c := 44) (len := 10) zr_112_72 rfl rfl (by omega) (by omega) ?_
                    intro x36 ex36
                    have bx36 := hIm35.ra (c := 44) (len := 10) (k := (a1).toNat) rfl (by omega)
                    rw [← ex36] at bx36
                    clear ex36
                    refine zw_17h zr_112_73 ?_
                    intro x37 hx37a hx37b
                    refine zw_R zr_112_74 (by decide) zm_112 (v := (0, x37)) rfl ?_
                    rw [← hQ]; exact ⟨_, rfl, by omega, by omega, hIm35, hFm35⟩
                  · intro h38; omega

abbrev W_175 : List (Nat × Nat) := [(69, 5), (69, 6), (69, 7), (69, 9), (69, 11), (69, 13), (69, 17), (69, 18), (73, 1000), (74, 1000), (75, 1000), (76, 1000), (77, 1000), (78, 1000)]
set_option maxHeartbeats 8000000 in
theorem th_175 {E : zE} {d : Nat} {m0 : zM} {a0 : Int} {a1 : Int} {a2 : Int} (hd : 10 ≤ d) (hI0 : zInv m0) (ha0 : (-2147483648) ≤ a0 ∧ a0 ≤ 2147483647) (ha1 : (-2147483648) ≤ a1 ∧ a1 ≤ 2147483647) (ha2 : (-2147483648) ≤ a2 ∧ a2 ≤ 2147483647) : zC E d 175 [(2, 69), (0, a0), (0, a1), (0, a2)] m0 (fun v m' => ∃ r : Int, v = (0, r) ∧ (-2147483648) ≤ r ∧ r ≤ 2147483647 ∧ zInv m' ∧ zFr W_175 m0 m') := by
  have hF0 : zFr W_175 m0 m0 := zFr.rfl
  generalize hQ : (fun (v : zV) (m' : zM) => ∃ r : Int, v = (0, r) ∧ (-2147483648) ≤ r ∧ r ≤ 2147483647 ∧ zInv m' ∧ zFr W_175 m0 m') = Q
  show zW E d 175 0 [(2, 69), (0, a0), (0, a1), (0, a2), (9, 0), (9, 0)] [] m0 Q
  refine zw_3 zr_175_0 rfl ?_
  refine zw_C zr_175_1 (Or.inr rfl) zm_148 rfl rfl ⟨Nat.le_of_ble_eq_true rfl, Nat.le_of_ble_eq_true rfl, Nat.le_of_ble_eq_true rfl, rfl, by decide⟩ (by omega) (P := (fun v m' => zW E (d) 175 4 [(2, 69), (0, a0), (0, a1), (0, a2), (9, 0), (9, 0)] (if v.1 = 9 then [] else v :: []) m' Q)) ?_ (fun _ _ h => h)
  generalize hQ1 : (fun v m' => zW E (d) 175 4 [(2, 69), (0, a0), (0, a1), (0, a2), (9, 0), (9, 0)] (if v.1 = 9 then [] else v :: []) m' Q) = Q1
  show zW E (d - 1) 148 0 [(0, a0)] [] m0 Q1
  refine zw_3 zr_148_0 rfl ?_
  refine zw_36 zr_148_1 ?_
  refine zw_push zr_148_2 ?_
  refine zw_push zr_148_3 ?_
  refine zw_C zr_148_6 (Or.inr rfl) zm_140 rfl rfl ⟨Nat.le_of_ble_eq_true rfl, Nat.le_of_ble_eq_true rfl, Nat.le_of_ble_eq_true rfl, rfl, by decide⟩ (by omega) (P := (fun v m' => zW E (d - 1) 148 9 [(0, a0)] (if v.1 = 9 then [] else v :: []) m' Q1)) ?_ (fun _ _ h => h)
  generalize hQ2 : (fun v m' => zW E (d - 1) 148 9 [(0, a0)] (if v.1 = 9 then [] else v :: []) m' Q1) = Q2
  show zW E (d - 1 - 1) 140 0 [(1, a0), (9, 0), (1, 0), (9, 0), (1, 3), (9, 0)] [] m0 Q2
  refine zw_5 zr_140_0 rfl ?_
  refine zw_5 zr_140_1 rfl ?_
  refine zw_39_0 zr_140_2 zr_140_3 ?_ ?_
  · intro h1
    refine zw_push zr_140_17 ?_
    refine zw_R zr_140_18 (by decide) zm_140 (v := (0, 0)) (zRetB (by omega)) ?_
    rw [← hQ2]
    show zW E (d - 1) 148 9 [(0, a0)] [(0, 0)] m0 Q1
    refine zw_R zr_148_9 (by decide) zm_148 (v := (0, 0)) (zRetB (by omega)) ?_
    rw [← hQ1]
    show zW E (d) 175 4 [(2, 69), (0, a0), (0, a1), (0, a2), (9, 0), (9, 0)] [(0, 0)] m0 Q
    refine zw_40_1 zr_175_4 ?_ ?_
    · intro h2
      refine zw_push zr_175_22 ?_
      refine zw_R zr_175_24 (by decide) zm_175 (v := (0, (-100000))) rfl ?_
      rw [← hQ]; exact ⟨_, rfl, by omega, by omega, hI0, hF0⟩
    · intro h3; omega
  · intro h4
    refine zw_5 zr_140_6 rfl ?_
    refine zw_6 zr_140_7 rfl ?_
    refine zw_39_2 zr_140_9 zr_140_10 ?_ ?_
    · intro h5
      refine zw_push zr_140_17 ?_
      refine zw_R zr_140_18 (by decide) zm_140 (v := (0, 0)) (zRetB (by omega)) ?_
      rw [← hQ2]
      show zW E (d - 1) 148 9 [(0, a0)] [(0, 0)] m0 Q1
      refine zw_R zr_148_9 (by decide) zm_148 (v := (0, 0)) (zRetB (by omega)) ?_
      rw [← hQ1]
      show zW E (d) 175 4 [(2, 69), (0, a0), (0, a1), (0, a2), (9, 0), (9, 0)] [(0, 0)] m0 Q
      refine zw_40_1 zr_175_4 ?_ ?_
      · intro h6
        refine zw_push zr_175_22 ?_
        refine zw_R zr_175_24 (by decide) zm_175 (v := (0, (-100000))) rfl ?_
        rw [← hQ]; exact ⟨_, rfl, by omega, by omega, hI0, hF0⟩
      · intro h7; omega
    · intro h8
      refine zw_push zr_140_13 ?_
      refine zw_42 zr_140_14 ?_
      refine zw_R zr_140_18 (by decide) zm_140 (v := (0, 1)) (zRetB (by omega)) ?_
      rw [← hQ2]
      show zW E (d - 1) 148 9 [(0, a0)] [(0, 1)] m0 Q1
      refine zw_R zr_148_9 (by decide) zm_148 (v := (0, 1)) (zRetB (by omega)) ?_
      rw [← hQ1]
      show zW E (d) 175 4 [(2, 69), (0, a0), (0, a1), (0, a2), (9, 0), (9, 0)] [(0, 1)] m0 Q
      refine zw_40_1 zr_175_4 ?_ ?_
      · intro h9; omega
      · intro h10
        refine zw_7 zr_175_7 rfl ?_
        refine zw_3 zr_175_8 rfl ?_
        refine zw_C zr_175_9 (Or.inl rfl) zm_143 rfl rfl ⟨Nat.le_of_ble_eq_true rfl, Nat.le_of_ble_eq_true rfl, Nat.le_of_ble_eq_true rfl, rfl, by decide⟩ (by omega) (P := (fun v m' => zW E (d) 175 12 [(2, 69), (0, a0), (0, a1), (0, a2), (9, 0), (9, 0)] (if v.1 = 9 then [] else v :: []) m' Q)) ?_ (fun _ _ h => h)
        generalize hQ1 : (fun v m' => zW E (d) 175 12 [(2, 69), (0, a0), (0, a1), (0, a2), (9, 0), (9, 0)] (if v.1 = 9 then [] else v :: []) m' Q) = Q1
        show zW E (d - 1) 143 0 [(2, 69), (0, a1)] [] m0 Q1
        refine zw_3 zr_143_0 rfl ?_
        refine zw_36 zr_143_1 ?_
        refine zw_push zr_143_2 ?_
        refine zw_7 zr_143_3 rfl ?_
        refine zw_C zr_143_4 (Or.inl rfl) zm_141 rfl rfl ⟨Nat.le_of_ble_eq_true rfl, Nat.le_of_ble_eq_true rfl, Nat.le_of_ble_eq_true rfl, rfl, by decide⟩ (by omega) (P := (fun v m' => zW E (d - 1) 143 7 [(2, 69), (0, a1)] (if v.1 = 9 then [(1, 0), (1, a1)] else v :: [(1, 0), (1, a1)]) m' Q1)) ?_ (fun _ _ h => h)
        generalize hQ2 : (fun v m' => zW E (d - 1) 143 7 [(2, 69), (0, a1)] (if v.1 = 9 then [(1, 0), (1, a1)] else v :: [(1, 0), (1, a1)]) m' Q1) = Q2
        show zW E (d - 1 - 1) 141 0 [(2, 69)] [] m0 Q2
        refine zw_7 zr_141_0 rfl ?_
        refine zw_46r (s := 70) zr_141_1 rfl rfl rfl rfl ?_
        refine zw_push zr_141_4 ?_
        obtain ⟨f11, ef11⟩ : ∃ v, m0 70 822 = v := ⟨_, rfl⟩
        have bf11 : 0 ≤ m0 70 822 ∧ m0 70 822 ≤ 10 := ib_70_players hI0 (by omega)
        rw [ef11] at bf11
        refine zw_48k (c := 70) (len := 826) zr_141_7 rfl rfl (by omega) (by omega) (show (822 : Int).toNat = 822 by omega) ef11 ?_
        refine zw_R zr_141_8 (by decide) zm_141 (v := (0, f11)) rfl ?_
        rw [← hQ2]
        show zW E (d - 1) 143 7 [(2, 69), (0, a1)] [(0, f11), (1, 0), (1, a1)] m0 Q1
        refine zw_push zr_143_7 ?_
        refine zw_17 zr_143_8 (by omega) ?_
        refine zw_36 zr_143_9 ?_
        refine zw_C zr_143_10 (Or.inr rfl) zm_140 rfl rfl ⟨Nat.le_of_ble_eq_true rfl, Nat.le_of_ble_eq_true rfl, Nat.le_of_ble_eq_true rfl, rfl, by decide⟩ (by omega) (P := (fun v m' => zW E (d - 1) 143 13 [(2, 69), (0, a1)] (if v.1 = 9 then [] else v :: []) m' Q1)) ?_ (fun _ _ h => h)
        generalize hQ2 : (fun v m' => zW E (d - 1) 143 13 [(2, 69), (0, a1)] (if v.1 = 9 then [] else v :: []) m' Q1) = Q2
        show zW E (d - 1 - 1) 140 0 [(1, a1), (9, 0), (1, 0), (9, 0), (1, (f11 - 1)), (9, 0)] [] m0 Q2
        refine zw_5 zr_140_0 rfl ?_
        refine zw_5 zr_140_1 rfl ?_
        refine zw_39_0 zr_140_2 zr_140_3 ?_ ?_
        · intro h12
          refine zw_push zr_140_17 ?_
          refine zw_R zr_140_18 (by decide) zm_140 (v := (0, 0)) (zRetB (by omega)) ?_
          rw [← hQ2]
          show zW E (d - 1) 143 13 [(2, 69), (0, a1)] [(0, 0)] m0 Q1
          refine zw_R zr_143_13 (by decide) zm_143 (v := (0, 0)) (zRetB (by omega)) ?_
          rw [← hQ1]
          show zW E (d) 175 12 [(2, 69), (0, a0), (0, a1), (0, a2), (9, 0), (9, 0)] [(0, 0)] m0 Q
          refine zw_40_1 zr_175_12 ?_ ?_
          · intro h13
            refine zw_push zr_175_22 ?_
            refine zw_R zr_175_24 (by decide) zm_175 (v := (0, (-100000))) rfl ?_
            rw [← hQ]; exact ⟨_, rfl, by omega, by omega, hI0, hF0⟩
          · intro h14; omega
        · intro h15
          refine zw_5 zr_140_6 rfl ?_
          refine zw_6 zr_140_7 rfl ?_
          refine zw_39_2 zr_140_9 zr_140_10 ?_ ?_
          · intro h16
            refine zw_push zr_140_17 ?_
            refine zw_R zr_140_18 (by decide) zm_140 (v := (0, 0)) (zRetB (by omega)) ?_
            rw [← hQ2]
            show zW E (d - 1) 143 13 [(2, 69), (0, a1)] [(0, 0)] m0 Q1
            refine zw_R zr_143_13 (by decide) zm_143 (v := (0, 0)) (zRetB (by omega)) ?_
            rw [← hQ1]
            show zW E (d) 175 12 [(2, 69), (0, a0), (0, a1), (0, a2), (9, 0), (9, 0)] [(0, 0)] m0 Q
            refine zw_40_1 zr_175_12 ?_ ?_
            · intro h17
              refine zw_push zr_175_22 ?_
              refine zw_R zr_175_24 (by decide) zm_175 (v := (0, (-100000))) rfl ?_
              rw [← hQ]; exact ⟨_, rfl, by omega, by omega, hI0, hF0⟩
            · intro h18; omega
          · intro h19
            refine zw_push zr_140_13 ?_
            refine zw_42 zr_140_14 ?_
            refine zw_R zr_140_18 (by decide) zm_140 (v := (0, 1)) (zRetB (by omega)) ?_
            rw [← hQ2]
            show zW E (d - 1) 143 13 [(2, 69), (0, a1)] [(0, 1)] m0 Q1
            refine zw_R zr_143_13 (by decide) zm_143 (v := (0, 1)) (zRetB (by omega)) ?_
            rw [← hQ1]
            show zW E (d) 175 12 [(2, 69), (0, a0), (0, a1), (0, a2), (9, 0), (9, 0)] [(0, 1)] m0 Q
            refine zw_40_1 zr_175_12 ?_ ?_
            · intro h20; omega
            · intro h21
              refine zw_3 zr_175_15 rfl ?_
              refine zw_C zr_175_16 (Or.inr rfl) zm_169 rfl rfl ⟨Nat.le_of_ble_eq_true rfl, Nat.le_of_ble_eq_true rfl, Nat.le_of_ble_eq_true rfl, rfl, by decide⟩ (by omega) (P := (fun v m' => zW E (d) 175 19 [(2, 69), (0, a0), (0, a1), (0, a2), (9, 0), (9, 0)] (if v.1 = 9 then [] else v :: []) m' Q)) ?_ (fun _ _ h => h)
              generalize hQ1 : (fun v m' => zW E (d) 175 19 [(2, 69), (0, a0), (0, a1), (0, a2), (9, 0), (9, 0)] (if v.1 = 9 then [] else v :: []) m' Q) = Q1
              show zW E (d - 1) 169 0 [(0, a2)] [] m0 Q1
              refine zw_3 zr_169_0 rfl ?_
              refine zw_36 zr_169_1 ?_
              refine zw_push zr_169_2 ?_
              refine zw_push zr_169_3 ?_
              refine zw_C zr_169_6 (Or.inr rfl) zm_140 rfl rfl ⟨Nat.le_of_ble_eq_true rfl, Nat.le_of_ble_eq_true rfl, Nat.le_of_ble_eq_true rfl, rfl, by decide⟩ (by omega) (P := (fun v m' => zW E (d - 1) 169 9 [(0, a2)] (if v.1 = 9 then [] else v :: []) m' Q1)) ?_ (fun _ _ h => h)
              generalize hQ2 : (fun v m' => zW E (d - 1) 169 9 [(0, a2)] (if v.1 = 9 then [] else v :: []) m' Q1) = Q2
              show zW E (d - 1 - 1) 140 0 [(1, a2), (9, 0), (1, 0), (9, 0), (1, 99), (9, 0)] [] m0 Q2
              refine zw_5 zr_140_0 rfl ?_
              refine zw_5 zr_140_1 rfl ?_
              refine zw_39_0 zr_140_2 zr_140_3 ?_ ?_
              · intro h22
                refine zw_push zr_140_17 ?_
                refine zw_R zr_140_18 (by decide) zm_140 (v := (0, 0)) (zRetB (by omega)) ?_
                rw [← hQ2]
                show zW E (d - 1) 169 9 [(0, a2)] [(0, 0)] m0 Q1
                refine zw_R zr_169_9 (by decide) zm_169 (v := (0, 0)) (zRetB (by omega)) ?_
                rw [← hQ1]
                show zW E (d) 175 19 [(2, 69), (0, a0), (0, a1), (0, a2), (9, 0), (9, 0)] [(0, 0)] m0 Q
                refine zw_40_4 zr_175_19 ?_ ?_
                · intro h23; omega
                · intro h24
                  refine zw_push zr_175_22 ?_
                  refine zw_R zr_175_24 (by decide) zm_175 (v := (0, (-100000))) rfl ?_
                  rw [← hQ]; exact ⟨_, rfl, by omega, by omega, hI0, hF0⟩
              · intro h25
                refine zw_5 zr_140_6 rfl ?_
                refine zw_6 zr_140_7 rfl ?_
                refine zw_39_2 zr_140_9 zr_140_10 ?_ ?_
                · intro h26
                  refine zw_push zr_140_17 ?_
                  refine zw_R zr_140_18 (by decide) zm_140 (v := (0, 0)) (zRetB (by omega)) ?_
                  rw [← hQ2]
                  show zW E (d - 1) 169 9 [(0, a2)] [(0, 0)] m0 Q1
                  refine zw_R zr_169_9 (by decide) zm_169 (v := (0, 0)) (zRetB (by omega)) ?_
                  rw [← hQ1]
                  show zW E (d) 175 19 [(2, 69), (0, a0), (0, a1), (0, a2), (9, 0), (9, 0)] [(0, 0)] m0 Q
                  refine zw_40_4 zr_175_19 ?_ ?_
                  · intro h27; omega
                  · intro h28
                    refine zw_push zr_175_22 ?_
                    refine zw_R zr_175_24 (by decide) zm_175 (v := (0, (-100000))) rfl ?_
                    rw [← hQ]; exact ⟨_, rfl, by omega, by omega, hI0, hF0⟩
                · intro h29
                  refine zw_push zr_140_13 ?_
                  refine zw_42 zr_140_14 ?_
                  refine zw_R zr_140_18 (by decide) zm_140 (v := (0, 1)) (zRetB (by omega)) ?_
                  rw [← hQ2]
                  show zW E (d - 1) 169 9 [(0, a2)] [(0, 1)] m0 Q1
                  refine zw_R zr_169_9 (by decide) zm_169 (v := (0, 1)) (zRetB (by omega)) ?_
                  rw [← hQ1]
                  show zW E (d) 175 19 [(2, 69), (0, a0), (0, a1), (0, a2), (9, 0), (9, 0)] [(0, 1)] m0 Q
                  refine zw_40_4 zr_175_19 ?_ ?_
                  · intro h30
                    refine zw_7 zr_175_25 rfl ?_
                    refine zw_3 zr_175_26 rfl ?_
                    refine zw_push zr_175_27 ?_
                    refine zw_C zr_175_29 (Or.inl rfl) zm_167 rfl rfl ⟨Nat.le_of_ble_eq_true rfl, Nat.le_of_ble_eq_true rfl, Nat.le_of_ble_eq_true rfl, rfl, by decide⟩ (by omega) (th_167 (d := d - 1) (by omega) hI0 (a0 := a0) (a1 := 99)   (by omega) (by omega)) ?_
                    rintro _ m31 ⟨rfl, hIm31, gm31⟩
                    have hFm31 : zFr W_175 m0 m31 := hF0.trans gm31 rfl
                    have km31_70_822 : m31 70 822 = f11 := (gm31 70 822 rfl).trans ef11
                    show zW E (d) 175 32 [(2, 69), (0, a0), (0, a1), (0, a2), (9, 0), (9, 0)] [] m31 Q
                    refine zw_7 zr_175_32 rfl ?_
                    refine zw_46r (s := 76) zr_175_33 rfl rfl rfl rfl ?_
                    refine zw_3 zr_175_36 rfl ?_
                    refine zw_48 (c := 76) (len := 10) zr_175_37 rfl rfl (by omega) (by omega) ?_
                    intro x32 ex32
                    have bx32 := hIm31.ra (c := 76) (len := 10) (k := (a1).toNat) rfl (by omega)
                    rw [← ex32] at bx32
                    clear ex32
                    refine zw_10 (L' := [(2, 69), (0, a0), (0, a1), (0, a2), (0, x32), (9, 0)]) zr_175_38 (Nat.le_of_ble_eq_true rfl) rfl ?_
                    refine zw_7 zr_175_40 rfl ?_
                    refine zw_3 zr_175_41 rfl ?_
                    refine zw_C zr_175_42 (Or.inl rfl) zm_164 rfl rfl ⟨Nat.le_of_ble_eq_true rfl, Nat.le_of_ble_eq_true rfl, Nat.le_of_ble_eq_true rfl, rfl, by decide⟩ (by omega) (th_164 (d := d - 1) (by omega) hIm31 (a0 := a0)   (by omega)) ?_
                    rintro _ m33 ⟨rfl, hIm33, gm33⟩
                    have hFm33 : zFr W_175 m0 m33 := hFm31.trans gm33 rfl
                    have km33_70_822 : m33 70 822 = f11 := (gm33 70 822 rfl).trans km31_70_822
                    show zW E (d) 175 45 [(2, 69), (0, a0), (0, a1), (0, a2), (0, x32), (9, 0)] [] m33 Q
                    refine zw_push zr_175_45 ?_
                    refine zw_10 (L' := [(2, 69), (0, a0), (0, a1), (0, a2), (0, x32), (0, 0)]) zr_175_46 (Nat.le_of_ble_eq_true rfl) rfl ?_
                    have lp48_36 : ∀ (nlp48_36 : Nat) (i34 : Int) (m35 : zM), zInv m35 → zFr W_175 m0 m35 → m35 70 822 = f11 → 0 ≤ i34 → i34 ≤ 60 → (60 - i34).toNat < nlp48_36 → zW E (d) 175 48 [(2, 69), (0, a0), (0, a1), (0, a2), (0, x32), (0, i34)] [] m35 Q := by
                      intro nlp48_36
                      induction nlp48_36 with
                      | zero =>
                        intros
                        exact absurd (by assumption : _ < 0) (Nat.not_lt_zero _)
                      | succ nlp48_36 ihlp48_36 =>
                        intro i34 m35 hIm35 hFm35 km35_70_822 li34 ui34 hmlp48_36
                        refine zw_4 zr_175_48 rfl ?_
                        refine zw_7 zr_175_50 rfl ?_
                        refine zw_C zr_175_51 (Or.inl rfl) zm_142 rfl rfl ⟨Nat.le_of_ble_eq_true rfl, Nat.le_of_ble_eq_true rfl, Nat.le_of_ble_eq_true rfl, rfl, by decide⟩ (by omega) (P := (fun v m' => zW E (d) 175 54 [(2, 69), (0, a0), (0, a1), (0, a2), (0, x32), (0, i34)] (if v.1 = 9 then [(0, i34)] else v :: [(0, i34)]) m' Q)) ?_ (fun _ _ h => h)
                        generalize hQ1 : (fun v m' => zW E (d) 175 54 [(2, 69), (0, a0), (0, a1), (0, a2), (0, x32), (0, i34)] (if v.1 = 9 then [(0, i34)] else v :: [(0, i34)]) m' Q) = Q1
                        show zW E (d - 1) 142 0 [(2, 69)] [] m35 Q1
                        refine zw_7 zr_142_0 rfl ?_
                        refine zw_46r (s := 70) zr_142_1 rfl rfl rfl rfl ?_
                        refine zw_push zr_142_4 ?_
                        obtain ⟨f38, ef38⟩ : ∃ v, m35 70 823 = v := ⟨_, rfl⟩
                        have bf38 : 0 ≤ m35 70 823 ∧ m35 70 823 ≤ 60 := ib_70_meetings hIm35 (by omega)
                        rw [ef38] at bf38
                        refine zw_48k (c := 70) (len := 826) zr_142_7 rfl rfl (by omega) (by omega) (show (823 : Int).toNat = 823 by omega) ef38 ?_
                        refine zw_R zr_142_8 (by decide) zm_142 (v := (0, f38)) rfl ?_
                        rw [← hQ1]
                        show zW E (d) 175 54 [(2, 69), (0, a0), (0, a1), (0, a2), (0, x32), (0, i34)] [(0, f38), (0, i34)] m35 Q
                        refine zw_41_3 zr_175_54 ?_ ?_
                        · intro h39
                          refine zw_7 zr_175_91 rfl ?_
                          refine zw_46r (s := 76) zr_175_92 rfl rfl rfl rfl ?_
                          refine zw_3 zr_175_95 rfl ?_
                          refine zw_48 (c := 76) (len := 10) zr_175_96 rfl rfl (by omega) (by omega) ?_
                          intro x40 ex40
                          have bx40 := hIm35.ra (c := 76) (len := 10) (k := (a1).toNat) rfl (by omega)
                          rw [← ex40] at bx40
                          clear ex40
                          refine zw_4 zr_175_97 rfl ?_
                          refine zw_17h zr_175_99 ?_
                          intro x41 hx41a hx41b
                          refine zw_R zr_175_100 (by decide) zm_175 (v := (0, x41)) rfl ?_
                          rw [← hQ]; exact ⟨_, rfl, by omega, by omega, hIm35, hFm35⟩
                        · intro h42
                          refine zw_7 zr_175_57 rfl ?_
                          refine zw_4 zr_175_58 rfl ?_
                          refine zw_push zr_175_60 ?_
                          refine zw_C zr_175_61 (Or.inl rfl) zm_144 rfl rfl ⟨Nat.le_of_ble_eq_true rfl, Nat.le_of_ble_eq_true rfl, Nat.le_of_ble_eq_true rfl, rfl, by decide⟩ (by omega) (P := (fun v m' => zW E (d) 175 64 [(2, 69), (0, a0), (0, a1), (0, a2), (0, x32), (0, i34)] (if v.1 = 9 then [] else v :: []) m' Q)) ?_ (fun _ _ h => h)
                          generalize hQ1 : (fun v m' => zW E (d) 175 64 [(2, 69), (0, a0), (0, a1), (0, a2), (0, x32), (0, i34)] (if v.1 = 9 then [] else v :: []) m' Q) = Q1
                          show zW E (d - 1) 144 0 [(2, 69), (0, i34), (0, 0)] [] m35 Q1
                          refine zw_7 zr_144_0 rfl ?_
                          refine zw_46r (s := 70) zr_144_1 rfl rfl rfl rfl ?_
                          refine zw_push zr_144_4 ?_
                          refine zw_push zr_144_6 ?_
                          refine zw_3 zr_144_8 rfl ?_
                          refine zw_18 zr_144_9 (by omega) ?_
                          refine zw_16 zr_144_10 (by omega) ?_
                          refine zw_3 zr_144_11 rfl ?_
                          refine zw_16 zr_144_12 (by omega) ?_
                          refine zw_48 (c := 70) (len := 826) zr_144_13 rfl rfl (by omega) (by omega) ?_
                          intro x43 ex43
                          have bx43 := ib_70_m0 hIm35 (k := (((90 + (6 * i34)) + 0)).toNat) (by omega)
                          rw [← ex43] at bx43
                          clear ex43
                          refine zw_R zr_144_14 (by decide) zm_144 (v := (0, x43)) rfl ?_
                          rw [← hQ1]
                          show zW E (d) 175 64 [(2, 69), (0, a0), (0, a1), (0, a2), (0, x32), (0, i34)] [(0, x43)] m35 Q
                          refine zw_3 zr_175_64 rfl ?_
                          refine zw_41_4 zr_175_65 ?_ ?_
                          · intro h44
                            refine zw_7 zr_175_78 rfl ?_
                            refine zw_3 zr_175_79 rfl ?_
                            refine zw_4 zr_175_80 rfl ?_
                            refine zw_C zr_175_82 (Or.inl rfl) zm_166 rfl rfl ⟨Nat.le_of_ble_eq_true rfl, Nat.le_of_ble_eq_true rfl, Nat.le_of_ble_eq_true rfl, rfl, by decide⟩ (by omega) (th_166 (d := d - 1) (by omega) hIm35 (a0 := a0) (a1 := i34)   (by omega) (by omega)) ?_
                            rintro _ m45 ⟨rfl, hIm45, gm45⟩
                            have hFm45 : zFr W_175 m0 m45 := hFm35.trans gm45 rfl
                            have km45_70_822 : m45 70 822 = f11 := (gm45 70 822 rfl).trans km35_70_822
                            have km45_70_823 : m45 70 823 = f38 := (gm45 70 823 rfl).trans ef38
                            show zW E (d) 175 85 [(2, 69), (0, a0), (0, a1), (0, a2), (0, x32), (0, i34)] [] m45 Q
                            refine zw_15 (c := 1) (L' := [(2, 69), (0, a0), (0, a1), (0, a2), (0, x32), (0, (i34 + 1))]) zr_175_85 rfl (by decide) (by omega) rfl ?_
                            refine zw_42 zr_175_88 ?_
                            exact zw_less (L := [(2, 69), (0, a0), (0, a1), (0, a2), (0, x32), (0, (i34 + 1))]) ⟨Or.inr rfl, Or.inr rfl, Or.inr rfl, Or.inr rfl, Or.inr rfl, Or.inr rfl, trivial⟩ (ihlp48_36 ((i34 + 1)) m45 hIm45 hFm45  km45_70_822 (by omega) (by omega) (by omega))
                          · intro h46
                            refine zw_7 zr_175_68 rfl ?_
                            refine zw_4 zr_175_69 rfl ?_
                            refine zw_3 zr_175_71 rfl ?_
                            refine zw_C zr_175_72 (Or.inl rfl) zm_171 rfl rfl ⟨Nat.le_of_ble_eq_true rfl, Nat.le_of_ble_eq_true rfl, Nat.le_of_ble_eq_true rfl, rfl, by decide⟩ (by omega) (P := (fun v m' => zW E (d) 175 75 [(2, 69), (0, a0), (0, a1), (0, a2), (0, x32), (0, i34)] (if v.1 = 9 then [] else v :: []) m' Q)) ?_ (fun _ _ h => h)
                            generalize hQ1 : (fun v m' => zW E (d) 175 75 [(2, 69), (0, a0), (0, a1), (0, a2), (0, x32), (0, i34)] (if v.1 = 9 then [] else v :: []) m' Q) = Q1
                            show zW E (d - 1) 171 0 [(2, 69), (0, i34), (0, a1)] [] m35 Q1
                            refine zw_7 zr_171_0 rfl ?_
                            refine zw_3 zr_171_1 rfl ?_
                            refine zw_push zr_171_2 ?_
                            refine zw_C zr_171_3 (Or.inl rfl) zm_144 rfl rfl ⟨Nat.le_of_ble_eq_true rfl, Nat.le_of_ble_eq_true rfl, Nat.le_of_ble_eq_true rfl, rfl, by decide⟩ (by omega) (P := (fun v m' => zW E (d - 1) 171 6 [(2, 69), (0, i34), (0, a1)] (if v.1 = 9 then [] else v :: []) m' Q1)) ?_ (fun _ _ h => h)
                            generalize hQ2 : (fun v m' => zW E (d - 1) 171 6 [(2, 69), (0, i34), (0, a1)] (if v.1 = 9 then [] else v :: []) m' Q1) = Q2
                            show zW E (d - 1 - 1) 144 0 [(2, 69), (0, i34), (0, 1)] [] m35 Q2
                            refine zw_7 zr_144_0 rfl ?_
                            refine zw_46r (s := 70) zr_144_1 rfl rfl rfl rfl ?_
                            refine zw_push zr_144_4 ?_
                            refine zw_push zr_144_6 ?_
                            refine zw_3 zr_144_8 rfl ?_
                            refine zw_18 zr_144_9 (by omega) ?_
                            refine zw_16 zr_144_10 (by omega) ?_
                            refine zw_3 zr_144_11 rfl ?_
                            refine zw_16 zr_144_12 (by omega) ?_
                            refine zw_48 (c := 70) (len := 826) zr_144_13 rfl rfl (by omega) (by omega) ?_
                            intro x47 ex47
                            have bx47 := ib_70_m1 hIm35 (k := (((90 + (6 * i34)) + 1)).toNat) (by omega)
                            rw [← ex47] at bx47
                            clear ex47
                            refine zw_R zr_144_14 (by decide) zm_144 (v := (0, x47)) rfl ?_
                            rw [← hQ2]
                            show zW E (d - 1) 171 6 [(2, 69), (0, i34), (0, a1)] [(0, x47)] m35 Q1
                            refine zw_3 zr_171_6 rfl ?_
                            refine zw_41_1 zr_171_7 ?_ ?_
                            · intro h48
                              refine zw_push zr_171_20 ?_
                              refine zw_42 zr_171_21 ?_
                              refine zw_R zr_171_25 (by decide) zm_171 (v := (0, 1)) (zRetB (by omega)) ?_
                              rw [← hQ1]
                              show zW E (d) 175 75 [(2, 69), (0, a0), (0, a1), (0, a2), (0, x32), (0, i34)] [(0, 1)] m35 Q
                              refine zw_40_4 zr_175_75 ?_ ?_
                              · intro h49
                                refine zw_15 (c := 1) (L' := [(2, 69), (0, a0), (0, a1), (0, a2), (0, x32), (0, (i34 + 1))]) zr_175_85 rfl (by decide) (by omega) rfl ?_
                                refine zw_42 zr_175_88 ?_
                                exact zw_less (L := [(2, 69), (0, a0), (0, a1), (0, a2), (0, x32), (0, (i34 + 1))]) ⟨Or.inr rfl, Or.inr rfl, Or.inr rfl, Or.inr rfl, Or.inr rfl, Or.inr rfl, trivial⟩ (ihlp48_36 ((i34 + 1)) m35 hIm35 hFm35  km35_70_822 (by omega) (by omega) (by omega))
                              · intro h50; omega
                            · intro h51
                              refine zw_7 zr_171_10 rfl ?_
                              refine zw_3 zr_171_11 rfl ?_
                              refine zw_push zr_171_12 ?_
                              refine zw_C zr_171_13 (Or.inl rfl) zm_144 rfl rfl ⟨Nat.le_of_ble_eq_true rfl, Nat.le_of_ble_eq_true rfl, Nat.le_of_ble_eq_true rfl, rfl, by decide⟩ (by omega) (P := (fun v m' => zW E (d - 1) 171 16 [(2, 69), (0, i34), (0, a1)] (if v.1 = 9 then [] else v :: []) m' Q1)) ?_ (fun _ _ h => h)
                              generalize hQ2 : (fun v m' => zW E (d - 1) 171 16 [(2, 69), (0, i34), (0, a1)] (if v.1 = 9 then [] else v :: []) m' Q1) = Q2
                              show zW E (d - 1 - 1) 144 0 [(2, 69), (0, i34), (0, 2)] [] m35 Q2
                              refine zw_7 zr_144_0 rfl ?_
                              refine zw_46r (s := 70) zr_144_1 rfl rfl rfl rfl ?_
                              refine zw_push zr_144_4 ?_
                              refine zw_push zr_144_6 ?_
                              refine zw_3 zr_144_8 rfl ?_
                              refine zw_18 zr_144_9 (by omega) ?_
                              refine zw_16 zr_144_10 (by omega) ?_
                              refine zw_3 zr_144_11 rfl ?_
                              refine zw_16 zr_144_12 (by omega) ?_
                              refine zw_48 (c := 70) (len := 826) zr_144_13 rfl rfl (by omega) (by omega) ?_
                              intro x52 ex52
                              have bx52 := ib_70_m2 hIm35 (k := (((90 + (6 * i34)) + 2)).toNat) (by omega)
                              rw [← ex52] at bx52
                              clear ex52
                              refine zw_R zr_144_14 (by decide) zm_144 (v := (0, x52)) rfl ?_
                              rw [← hQ2]
                              show zW E (d - 1) 171 16 [(2, 69), (0, i34), (0, a1)] [(0, x52)] m35 Q1
                              refine zw_3 zr_171_16 rfl ?_
                              refine zw_41_4 zr_171_17 ?_ ?_
                              · intro h53
                                refine zw_push zr_171_24 ?_
                                refine zw_R zr_171_25 (by decide) zm_171 (v := (0, 0)) (zRetB (by omega)) ?_
                                rw [← hQ1]
                                show zW E (d) 175 75 [(2, 69), (0, a0), (0, a1), (0, a2), (0, x32), (0, i34)] [(0, 0)] m35 Q
                                refine zw_40_4 zr_175_75 ?_ ?_
                                · intro h54; omega
                                · intro h55
                                  refine zw_7 zr_175_78 rfl ?_
                                  refine zw_3 zr_175_79 rfl ?_
                                  refine zw_4 zr_175_80 rfl ?_
                                  refine zw_C zr_175_82 (Or.inl rfl) zm_166 rfl rfl ⟨Nat.le_of_ble_eq_true rfl, Nat.le_of_ble_eq_true rfl, Nat.le_of_ble_eq_true rfl, rfl, by decide⟩ (by omega) (th_166 (d := d - 1) (by omega) hIm35 (a0 := a0) (a1 := i34)   (by omega) (by omega)) ?_
                                  rintro _ m56 ⟨rfl, hIm56, gm56⟩
                                  have hFm56 : zFr W_175 m0 m56 := hFm35.trans gm56 rfl
                                  have km56_70_822 : m56 70 822 = f11 := (gm56 70 822 rfl).trans km35_70_822
                                  have km56_70_823 : m56 70 823 = f38 := (gm56 70 823 rfl).trans ef38
                                  show zW E (d) 175 85 [(2, 69), (0, a0), (0, a1), (0, a2), (0, x32), (0, i34)] [] m56 Q
                                  refine zw_15 (c := 1) (L' := [(2, 69), (0, a0), (0, a1), (0, a2), (0, x32), (0, (i34 + 1))]) zr_175_85 rfl (by decide) (by omega) rfl ?_
                                  refine zw_42 zr_175_88 ?_
                                  exact zw_less (L := [(2, 69), (0, a0), (0, a1), (0, a2), (0, x32), (0, (i34 + 1))]) ⟨Or.inr rfl, Or.inr rfl, Or.inr rfl, Or.inr rfl, Or.inr rfl, Or.inr rfl, trivial⟩ (ihlp48_36 ((i34 + 1)) m56 hIm56 hFm56  km56_70_822 (by omega) (by omega) (by omega))
                              · intro h57
                                refine zw_push zr_171_20 ?_
                                refine zw_42 zr_171_21 ?_
                                refine zw_R zr_171_25 (by decide) zm_171 (v := (0, 1)) (zRetB (by omega)) ?_
                                rw [← hQ1]
                                show zW E (d) 175 75 [(2, 69), (0, a0), (0, a1), (0, a2), (0, x32), (0, i34)] [(0, 1)] m35 Q
                                refine zw_40_4 zr_175_75 ?_ ?_
                                · intro h58
                                  refine zw_15 (c := 1) (L' := [(2, 69), (0, a0), (0, a1), (0, a2), (0, x32), (0, (i34 + 1))]) zr_175_85 rfl (by decide) (by omega) rfl ?_
                                  refine zw_42 zr_175_88 ?_
                                  exact zw_less (L := [(2, 69), (0, a0), (0, a1), (0, a2), (0, x32), (0, (i34 + 1))]) ⟨Or.inr rfl, Or.inr rfl, Or.inr rfl, Or.inr rfl, Or.inr rfl, Or.inr rfl, trivial⟩ (ihlp48_36 ((i34 + 1)) m35 hIm35 hFm35  km35_70_822 (by omega) (by omega) (by omega))
                                · intro h59; omega
                    exact lp48_36 _ (0) m33 hIm33 hFm33  km33_70_822 (by omega) (by omega) (Nat.lt_succ_self _)
                  · intro h60; omega

set_option maxHeartbeats 8000000 in
theorem th_46 {E : zE} {d : Nat} {m0 : zM} {a0 : Int} (hd : 1 ≤ d) (hI0 : zInv m0) (ha0 : 0 ≤ a0 ∧ a0 ≤ 59) : zC E d 46 [(2, 43), (0, a0)] m0 (fun v m' => ∃ r : Int, v = (0, r) ∧ 0 ≤ r ∧ r ≤ 2 ∧ m0 = m') := by
  generalize hQ : (fun (v : zV) (m' : zM) => ∃ r : Int, v = (0, r) ∧ 0 ≤ r ∧ r ≤ 2 ∧ m0 = m') = Q
  show zW E d 46 0 [(2, 43), (0, a0), (9, 0)] [] m0 Q
  refine zw_7 zr_46_0 rfl ?_
  refine zw_46r (s := 44) zr_46_1 rfl rfl rfl rfl ?_
  refine zw_7 zr_46_4 rfl ?_
  refine zw_46r (s := 1) zr_46_5 rfl rfl rfl rfl ?_
  refine zw_46r (s := 6) zr_46_8 rfl rfl rfl rfl ?_
  refine zw_3 zr_46_11 rfl ?_
  refine zw_48 (c := 6) (len := 60) zr_46_12 rfl rfl (by omega) (by omega) ?_
  intro x1 ex1
  have bx1 := ib_6 hI0 (k := (a0).toNat) (by omega)
  rw [← ex1] at bx1
  clear ex1
  refine zw_48 (c := 44) (len := 10) zr_46_13 rfl rfl (by omega) (by omega) ?_
  intro x2 ex2
  have bx2 := hI0.ra (c := 44) (len := 10) (k := (x1).toNat) rfl (by omega)
  rw [← ex2] at bx2
  clear ex2
  refine zw_7 zr_46_14 rfl ?_
  refine zw_46r (s := 44) zr_46_15 rfl rfl rfl rfl ?_
  refine zw_7 zr_46_18 rfl ?_
  refine zw_46r (s := 1) zr_46_19 rfl rfl rfl rfl ?_
  refine zw_46r (s := 7) zr_46_22 rfl rfl rfl rfl ?_
  refine zw_3 zr_46_25 rfl ?_
  refine zw_48 (c := 7) (len := 60) zr_46_26 rfl rfl (by omega) (by omega) ?_
  intro x3 ex3
  have bx3 := ib_7 hI0 (k := (a0).toNat) (by omega)
  rw [← ex3] at bx3
  clear ex3
  refine zw_48 (c := 44) (len := 10) zr_46_27 rfl rfl (by omega) (by omega) ?_
  intro x4 ex4
  have bx4 := hI0.ra (c := 44) (len := 10) (k := (x3).toNat) rfl (by omega)
  rw [← ex4] at bx4
  clear ex4
  refine zw_17h zr_46_28 ?_
  intro x5 hx5a hx5b
  refine zw_9 (L' := [(2, 43), (0, a0), (0, x5)]) zr_46_29 (Nat.le_of_ble_eq_true rfl) rfl ?_
  refine zw_7 zr_46_30 rfl ?_
  refine zw_46r (s := 1) zr_46_31 rfl rfl rfl rfl ?_
  refine zw_46r (s := 8) zr_46_34 rfl rfl rfl rfl ?_
  refine zw_3 zr_46_37 rfl ?_
  refine zw_48 (c := 8) (len := 60) zr_46_38 rfl rfl (by omega) (by omega) ?_
  intro x6 ex6
  have bx6 := ib_8 hI0 (k := (a0).toNat) (by omega)
  rw [← ex6] at bx6
  clear ex6
  by_cases h7 : x6 = 0
  · refine zw_112 (off := 25) (t := 64) zr_46_39 (by rw [h7]; rfl) rfl ?_
    refine zw_3 zr_46_64 rfl ?_
    refine zw_40_3 zr_46_65 ?_ ?_
    · intro h8
      refine zw_push zr_46_72 ?_
      refine zw_R zr_46_73 (by decide) zm_46 (v := (0, 0)) rfl ?_
      rw [← hQ]; exact ⟨_, rfl, by omega, by omega, rfl⟩
    · intro h9
      refine zw_push zr_46_68 ?_
      refine zw_42 zr_46_69 ?_
      refine zw_R zr_46_73 (by decide) zm_46 (v := (0, 2)) rfl ?_
      rw [← hQ]; exact ⟨_, rfl, by omega, by omega, rfl⟩
  by_cases h10 : x6 = 2
  · refine zw_112 (off := 35) (t := 74) zr_46_39 (by rw [h10]; rfl) rfl ?_
    refine zw_3 zr_46_74 rfl ?_
    refine zw_40_5 zr_46_75 ?_ ?_
    · intro h11
      refine zw_push zr_46_82 ?_
      refine zw_R zr_46_83 (by decide) zm_46 (v := (0, 0)) rfl ?_
      rw [← hQ]; exact ⟨_, rfl, by omega, by omega, rfl⟩
    · intro h12
      refine zw_push zr_46_78 ?_
      refine zw_42 zr_46_79 ?_
      refine zw_R zr_46_83 (by decide) zm_46 (v := (0, 2)) rfl ?_
      rw [← hQ]; exact ⟨_, rfl, by omega, by omega, rfl⟩
  refine zw_112 (off := 45) (t := 84) zr_46_39 (zlsw_df (by simp; omega)) rfl ?_
  refine zw_3 zr_46_84 rfl ?_
  refine zw_122h zr_46_85 (Nat.le_of_ble_eq_true rfl) (by omega) ?_
  intro x13 hx13a hx13b
  refine zw_push zr_46_88 ?_
  refine zw_41_2 zr_46_90 ?_ ?_
  · intro h14
    refine zw_push zr_46_97 ?_
    refine zw_R zr_46_98 (by decide) zm_46 (v := (0, 0)) rfl ?_
    rw [← hQ]; exact ⟨_, rfl, by omega, by omega, rfl⟩
  · intro h15
    refine zw_push zr_46_93 ?_
    refine zw_42 zr_46_94 ?_
    refine zw_R zr_46_98 (by decide) zm_46 (v := (0, 1)) rfl ?_
    rw [← hQ]; exact ⟨_, rfl, by omega, by omega, rfl⟩

abbrev W_47 : List (Nat × Nat) := [(43, 5), (44, 1000), (45, 1), (45, 5), (45, 6), (45, 7), (45, 8), (45, 9), (46, 1000), (47, 1000), (48, 1000), (49, 1000), (50, 1000), (51, 1000)]
set_option maxHeartbeats 8000000 in
theorem th_47 {E : zE} {d : Nat} {m0 : zM} {a0 : Int} (hd : 95 ≤ d) (hI0 : zInv m0) (ha0 : 0 ≤ a0 ∧ a0 ≤ 3) : zC E d 47 [(2, 43), (0, a0)] m0 (fun v m' => ∃ r : Int, v = (0, r) ∧ (-2147483648) ≤ r ∧ r ≤ 2147483647 ∧ zInv m' ∧ zFr W_47 m0 m') := by
  have hF0 : zFr W_47 m0 m0 := zFr.rfl
  generalize hQ : (fun (v : zV) (m' : zM) => ∃ r : Int, v = (0, r) ∧ (-2147483648) ≤ r ∧ r ≤ 2147483647 ∧ zInv m' ∧ zFr W_47 m0 m') = Q
  show zW E d 47 0 [(2, 43), (0, a0), (9, 0), (9, 0)] [] m0 Q
  refine zw_7 zr_47_0 rfl ?_
  refine zw_3 zr_47_1 rfl ?_
  refine zw_C zr_47_2 (Or.inl rfl) zm_16 rfl rfl ⟨Nat.le_of_ble_eq_true rfl, Nat.le_of_ble_eq_true rfl, Nat.le_of_ble_eq_true rfl, rfl, by decide⟩ (by omega) (th_16 (d := d - 1) (by omega) hI0 (a0 := a0)   (by omega)) ?_
  rintro _ m1 ⟨rfl, hIm1, gm1⟩
  have hFm1 : zFr W_47 m0 m1 := hF0.trans gm1 rfl
  show zW E (d) 47 5 [(2, 43), (0, a0), (9, 0), (9, 0)] [] m1 Q
  refine zw_push zr_47_5 ?_
  refine zw_9 (L' := [(2, 43), (0, a0), (0, 0), (9, 0)]) zr_47_6 (Nat.le_of_ble_eq_true rfl) rfl ?_
  refine zw_push zr_47_7 ?_
  refine zw_9 (L' := [(2, 43), (0, a0), (0, 0), (0, 0)]) zr_47_8 (Nat.le_of_ble_eq_true rfl) rfl ?_
  have lp9_5 : ∀ (nlp9_5 : Nat) (i2 i3 : Int) (m4 : zM), zInv m4 → zFr W_47 m0 m4 → (-2147483648) ≤ i2 → i2 ≤ 2147483647 → 0 ≤ i3 → i3 ≤ 60 → (60 - i3).toNat < nlp9_5 → zW E (d) 47 9 [(2, 43), (0, a0), (0, i2), (0, i3)] [] m4 Q := by
    intro nlp9_5
    induction nlp9_5 with
    | zero =>
      intros
      exact absurd (by assumption : _ < 0) (Nat.not_lt_zero _)
    | succ nlp9_5 ihlp9_5 =>
      intro i2 i3 m4 hIm4 hFm4 li2 ui2 li3 ui3 hmlp9_5
      refine zw_3 zr_47_9 rfl ?_
      refine zw_7 zr_47_10 rfl ?_
      refine zw_46r (s := 1) zr_47_11 rfl rfl rfl rfl ?_
      obtain ⟨f7, ef7⟩ : ∃ v, m4 1 1 = v := ⟨_, rfl⟩
      have bf7 := ib_1_1 hIm4
      rw [ef7] at bf7
      refine zw_46i zr_47_14 ef7 rfl rfl rfl ?_
      refine zw_41_3 zr_47_17 ?_ ?_
      · intro h8
        refine zw_3 zr_47_50 rfl ?_
        refine zw_R zr_47_51 (by decide) zm_47 (v := (0, i2)) rfl ?_
        rw [← hQ]; exact ⟨_, rfl, by omega, by omega, hIm4, hFm4⟩
      · intro h9
        refine zw_7 zr_47_20 rfl ?_
        refine zw_46r (s := 1) zr_47_21 rfl rfl rfl rfl ?_
        refine zw_3 zr_47_24 rfl ?_
        refine zw_C zr_47_25 (Or.inl rfl) zm_18 rfl rfl ⟨Nat.le_of_ble_eq_true rfl, Nat.le_of_ble_eq_true rfl, Nat.le_of_ble_eq_true rfl, rfl, by decide⟩ (by omega) (P := (fun v m' => zW E (d) 47 28 [(2, 43), (0, a0), (0, i2), (0, i3)] (if v.1 = 9 then [] else v :: []) m' Q)) ?_ (fun _ _ h => h)
        generalize hQ1 : (fun v m' => zW E (d) 47 28 [(2, 43), (0, a0), (0, i2), (0, i3)] (if v.1 = 9 then [] else v :: []) m' Q) = Q1
        show zW E (d - 1) 18 0 [(2, 1), (0, i3)] [] m4 Q1
        refine zw_7 zr_18_0 rfl ?_
        obtain ⟨f10, ef10⟩ : ∃ v, m4 1 2 = v := ⟨_, rfl⟩
        have bf10 := hIm4.fl (c := 1) (k := 2) rfl
        rw [ef10] at bf10
        refine zw_46l zr_18_1 ef10 rfl rfl rfl ?_
        refine zw_3 zr_18_4 rfl ?_
        refine zw_34h zr_18_5 ?_
        intro x11 hx11a hx11b
        refine zw_push zr_18_6 ?_
        refine zw_30h zr_18_7 ?_
        intro x12 hx12a hx12b
        refine zw_push zr_18_8 ?_
        refine zw_39_1 zr_18_9 zr_18_10 ?_ ?_
        · intro h13
          refine zw_push zr_18_17 ?_
          refine zw_R zr_18_18 (by decide) zm_18 (v := (0, 0)) (zRetB (by omega)) ?_
          rw [← hQ1]
          show zW E (d) 47 28 [(2, 43), (0, a0), (0, i2), (0, i3)] [(0, 0)] m4 Q
          refine zw_40_4 zr_47_28 ?_ ?_
          · intro h14; omega
          · intro h15
            refine zw_3 zr_47_31 rfl ?_
            refine zw_7 zr_47_32 rfl ?_
            refine zw_3 zr_47_33 rfl ?_
            refine zw_C zr_47_34 (Or.inl rfl) zm_46 rfl rfl ⟨Nat.le_of_ble_eq_true rfl, Nat.le_of_ble_eq_true rfl, Nat.le_of_ble_eq_true rfl, rfl, by decide⟩ (by omega) (th_46 (d := d - 1) (by omega) hIm4 (a0 := i3)   (by omega)) ?_
            rintro _ _ ⟨r16, rfl, hr16a, hr16b, rfl⟩
            show zW E (d) 47 37 [(2, 43), (0, a0), (0, i2), (0, i3)] [(0, r16), (0, i2)] m4 Q
            refine zw_16h zr_47_37 ?_
            intro x17 hx17a hx17b
            refine zw_9 (L' := [(2, 43), (0, a0), (0, x17), (0, i3)]) zr_47_38 (Nat.le_of_ble_eq_true rfl) rfl ?_
            refine zw_7 zr_47_39 rfl ?_
            refine zw_3 zr_47_40 rfl ?_
            refine zw_C zr_47_41 (Or.inl rfl) zm_26 rfl rfl ⟨Nat.le_of_ble_eq_true rfl, Nat.le_of_ble_eq_true rfl, Nat.le_of_ble_eq_true rfl, rfl, by decide⟩ (by omega) (th_26 (d := d - 1) (by omega) hIm4 (a0 := i3)   (by omega)) ?_
            rintro _ m18 ⟨rfl, hIm18, gm18⟩
            have hFm18 : zFr W_47 m0 m18 := hFm4.trans gm18 rfl
            have km18_1_1 : m18 1 1 = f7 := (gm18 1 1 rfl).trans ef7
            have km18_1_2 : m18 1 2 = f10 := (gm18 1 2 rfl).trans ef10
            show zW E (d) 47 44 [(2, 43), (0, a0), (0, x17), (0, i3)] [] m18 Q
            refine zw_15 (c := 1) (L' := [(2, 43), (0, a0), (0, x17), (0, (i3 + 1))]) zr_47_44 rfl (by decide) (by omega) rfl ?_
            refine zw_42 zr_47_47 ?_
            exact zw_less (L := [(2, 43), (0, a0), (0, x17), (0, (i3 + 1))]) ⟨Or.inr rfl, Or.inr rfl, Or.inr rfl, Or.inr rfl, trivial⟩ (ihlp9_5 (x17) ((i3 + 1)) m18 hIm18 hFm18   (by omega) (by omega) (by omega) (by omega) (by omega))
        · intro h19
          refine zw_push zr_18_13 ?_
          refine zw_42 zr_18_14 ?_
          refine zw_R zr_18_18 (by decide) zm_18 (v := (0, 1)) (zRetB (by omega)) ?_
          rw [← hQ1]
          show zW E (d) 47 28 [(2, 43), (0, a0), (0, i2), (0, i3)] [(0, 1)] m4 Q
          refine zw_40_4 zr_47_28 ?_ ?_
          · intro h20
            refine zw_7 zr_47_39 rfl ?_
            refine zw_3 zr_47_40 rfl ?_
            refine zw_C zr_47_41 (Or.inl rfl) zm_26 rfl rfl ⟨Nat.le_of_ble_eq_true rfl, Nat.le_of_ble_eq_true rfl, Nat.le_of_ble_eq_true rfl, rfl, by decide⟩ (by omega) (th_26 (d := d - 1) (by omega) hIm4 (a0 := i3)   (by omega)) ?_
            rintro _ m21 ⟨rfl, hIm21, gm21⟩
            have hFm21 : zFr W_47 m0 m21 := hFm4.trans gm21 rfl
            have km21_1_1 : m21 1 1 = f7 := (gm21 1 1 rfl).trans ef7
            have km21_1_2 : m21 1 2 = f10 := (gm21 1 2 rfl).trans ef10
            show zW E (d) 47 44 [(2, 43), (0, a0), (0, i2), (0, i3)] [] m21 Q
            refine zw_15 (c := 1) (L' := [(2, 43), (0, a0), (0, i2), (0, (i3 + 1))]) zr_47_44 rfl (by decide) (by omega) rfl ?_
            refine zw_42 zr_47_47 ?_
            exact zw_less (L := [(2, 43), (0, a0), (0, i2), (0, (i3 + 1))]) ⟨Or.inr rfl, Or.inr rfl, Or.inr rfl, Or.inr rfl, trivial⟩ (ihlp9_5 (i2) ((i3 + 1)) m21 hIm21 hFm21   (by omega) (by omega) (by omega) (by omega) (by omega))
          · intro h22; omega
  exact lp9_5 _ (0) (0) m1 hIm1 hFm1   (by omega) (by omega) (by omega) (by omega) (Nat.lt_succ_self _)

abbrev W_113 : List (Nat × Nat) := [(43, 5), (44, 1000), (45, 1), (45, 5), (45, 6), (45, 7), (45, 8), (45, 9), (46, 1000), (47, 1000), (48, 1000), (49, 1000), (50, 1000), (51, 1000)]
set_option maxHeartbeats 8000000 in
theorem th_113 {E : zE} {d : Nat} {m0 : zM} {a0 : Int} (hd : 96 ≤ d) (hI0 : zInv m0) (ha0 : (-2147483648) ≤ a0 ∧ a0 ≤ 2147483647) : zC E d 113 [(2, 0), (0, a0)] m0 (fun v m' => ∃ r : Int, v = (0, r) ∧ (-2147483648) ≤ r ∧ r ≤ 2147483647 ∧ zInv m' ∧ zFr W_113 m0 m') := by
  have hF0 : zFr W_113 m0 m0 := zFr.rfl
  generalize hQ : (fun (v : zV) (m' : zM) => ∃ r : Int, v = (0, r) ∧ (-2147483648) ≤ r ∧ r ≤ 2147483647 ∧ zInv m' ∧ zFr W_113 m0 m') = Q
  show zW E d 113 0 [(2, 0), (0, a0)] [] m0 Q
  refine zw_3 zr_113_0 rfl ?_
  refine zw_C zr_113_1 (Or.inr rfl) zm_104 rfl rfl ⟨Nat.le_of_ble_eq_true rfl, Nat.le_of_ble_eq_true rfl, Nat.le_of_ble_eq_true rfl, rfl, by decide⟩ (by omega) (P := (fun v m' => zW E (d) 113 4 [(2, 0), (0, a0)] (if v.1 = 9 then [] else v :: []) m' Q)) ?_ (fun _ _ h => h)
  generalize hQ1 : (fun v m' => zW E (d) 113 4 [(2, 0), (0, a0)] (if v.1 = 9 then [] else v :: []) m' Q) = Q1
  show zW E (d - 1) 104 0 [(0, a0)] [] m0 Q1
  refine zw_3 zr_104_0 rfl ?_
  refine zw_push zr_104_1 ?_
  refine zw_push zr_104_2 ?_
  refine zw_C zr_104_3 (Or.inr rfl) zm_100 rfl rfl ⟨Nat.le_of_ble_eq_true rfl, Nat.le_of_ble_eq_true rfl, Nat.le_of_ble_eq_true rfl, rfl, by decide⟩ (by omega) (P := (fun v m' => zW E (d - 1) 104 6 [(0, a0)] (if v.1 = 9 then [] else v :: []) m' Q1)) ?_ (fun _ _ h => h)
  generalize hQ2 : (fun v m' => zW E (d - 1) 104 6 [(0, a0)] (if v.1 = 9 then [] else v :: []) m' Q1) = Q2
  show zW E (d - 1 - 1) 100 0 [(0, a0), (0, 0), (0, 3)] [] m0 Q2
  refine zw_3 zr_100_0 rfl ?_
  refine zw_3 zr_100_1 rfl ?_
  refine zw_41_0 zr_100_2 ?_ ?_
  · intro h1
    refine zw_push zr_100_14 ?_
    refine zw_R zr_100_15 (by decide) zm_100 (v := (0, 0)) (zRetB (by omega)) ?_
    rw [← hQ2]
    show zW E (d - 1) 104 6 [(0, a0)] [(0, 0)] m0 Q1
    refine zw_R zr_104_6 (by decide) zm_104 (v := (0, 0)) (zRetB (by omega)) ?_
    rw [← hQ1]
    show zW E (d) 113 4 [(2, 0), (0, a0)] [(0, 0)] m0 Q
    refine zw_40_1 zr_113_4 ?_ ?_
    · intro h2
      refine zw_push zr_113_18 ?_
      refine zw_R zr_113_20 (by decide) zm_113 (v := (0, (-2))) rfl ?_
      rw [← hQ]; exact ⟨_, rfl, by omega, by omega, hI0, hF0⟩
    · intro h3; omega
  · intro h4
    refine zw_3 zr_100_5 rfl ?_
    refine zw_3 zr_100_6 rfl ?_
    refine zw_41_2 zr_100_7 ?_ ?_
    · intro h5
      refine zw_push zr_100_14 ?_
      refine zw_R zr_100_15 (by decide) zm_100 (v := (0, 0)) (zRetB (by omega)) ?_
      rw [← hQ2]
      show zW E (d - 1) 104 6 [(0, a0)] [(0, 0)] m0 Q1
      refine zw_R zr_104_6 (by decide) zm_104 (v := (0, 0)) (zRetB (by omega)) ?_
      rw [← hQ1]
      show zW E (d) 113 4 [(2, 0), (0, a0)] [(0, 0)] m0 Q
      refine zw_40_1 zr_113_4 ?_ ?_
      · intro h6
        refine zw_push zr_113_18 ?_
        refine zw_R zr_113_20 (by decide) zm_113 (v := (0, (-2))) rfl ?_
        rw [← hQ]; exact ⟨_, rfl, by omega, by omega, hI0, hF0⟩
      · intro h7; omega
    · intro h8
      refine zw_push zr_100_10 ?_
      refine zw_42 zr_100_11 ?_
      refine zw_R zr_100_15 (by decide) zm_100 (v := (0, 1)) (zRetB (by omega)) ?_
      rw [← hQ2]
      show zW E (d - 1) 104 6 [(0, a0)] [(0, 1)] m0 Q1
      refine zw_R zr_104_6 (by decide) zm_104 (v := (0, 1)) (zRetB (by omega)) ?_
      rw [← hQ1]
      show zW E (d) 113 4 [(2, 0), (0, a0)] [(0, 1)] m0 Q
      refine zw_40_1 zr_113_4 ?_ ?_
      · intro h9; omega
      · intro h10
        refine zw_7 zr_113_7 rfl ?_
        refine zw_46r (s := 43) zr_113_8 rfl rfl rfl rfl ?_
        refine zw_3 zr_113_11 rfl ?_
        refine zw_C zr_113_12 (Or.inl rfl) zm_47 rfl rfl ⟨Nat.le_of_ble_eq_true rfl, Nat.le_of_ble_eq_true rfl, Nat.le_of_ble_eq_true rfl, rfl, by decide⟩ (by omega) (th_47 (d := d - 1) (by omega) hI0 (a0 := a0)   (by omega)) ?_
        rintro _ m11 ⟨r12, rfl, hr12a, hr12b, hIm11, gm11⟩
        have hFm11 : zFr W_113 m0 m11 := hF0.trans gm11 rfl
        show zW E (d) 113 15 [(2, 0), (0, a0)] [(0, r12)] m11 Q
        refine zw_42 zr_113_15 ?_
        refine zw_R zr_113_20 (by decide) zm_113 (v := (0, r12)) rfl ?_
        rw [← hQ]; exact ⟨_, rfl, by omega, by omega, hIm11, hFm11⟩

abbrev W_176 : List (Nat × Nat) := [(69, 5), (69, 6), (69, 7), (69, 9), (69, 11), (69, 13), (69, 17), (69, 18), (73, 1000), (74, 1000), (75, 1000), (76, 1000), (77, 1000), (78, 1000)]
set_option maxHeartbeats 8000000 in
theorem th_176 {E : zE} {d : Nat} {m0 : zM} {a0 : Int} (hd : 9 ≤ d) (hI0 : zInv m0) (ha0 : 0 ≤ a0 ∧ a0 ≤ 3) : zC E d 176 [(2, 69), (0, a0)] m0 (fun v m' => ∃ r : Int, v = (0, r) ∧ (-2147483648) ≤ r ∧ r ≤ 2147483647 ∧ zInv m' ∧ zFr W_176 m0 m') := by
  have hF0 : zFr W_176 m0 m0 := zFr.rfl
  generalize hQ : (fun (v : zV) (m' : zM) => ∃ r : Int, v = (0, r) ∧ (-2147483648) ≤ r ∧ r ≤ 2147483647 ∧ zInv m' ∧ zFr W_176 m0 m') = Q
  show zW E d 176 0 [(2, 69), (0, a0), (9, 0), (9, 0), (9, 0), (9, 0)] [] m0 Q
  refine zw_7 zr_176_0 rfl ?_
  refine zw_3 zr_176_1 rfl ?_
  refine zw_C zr_176_2 (Or.inl rfl) zm_164 rfl rfl ⟨Nat.le_of_ble_eq_true rfl, Nat.le_of_ble_eq_true rfl, Nat.le_of_ble_eq_true rfl, rfl, by decide⟩ (by omega) (th_164 (d := d - 1) (by omega) hI0 (a0 := a0)   (by omega)) ?_
  rintro _ m1 ⟨rfl, hIm1, gm1⟩
  have hFm1 : zFr W_176 m0 m1 := hF0.trans gm1 rfl
  show zW E (d) 176 5 [(2, 69), (0, a0), (9, 0), (9, 0), (9, 0), (9, 0)] [] m1 Q
  refine zw_push zr_176_5 ?_
  refine zw_9 (L' := [(2, 69), (0, a0), (0, 0), (9, 0), (9, 0), (9, 0)]) zr_176_6 (Nat.le_of_ble_eq_true rfl) rfl ?_
  refine zw_push zr_176_7 ?_
  refine zw_9 (L' := [(2, 69), (0, a0), (0, 0), (0, 0), (9, 0), (9, 0)]) zr_176_8 (Nat.le_of_ble_eq_true rfl) rfl ?_
  have lp9_5 : ∀ (nlp9_5 : Nat) (i2 i3 : Int) (m4 : zM), zInv m4 → zFr W_176 m0 m4 → (-2147483648) ≤ i2 → i2 ≤ 2147483647 → 0 ≤ i3 → i3 ≤ 60 → (60 - i3).toNat < nlp9_5 → zW E (d) 176 9 [(2, 69), (0, a0), (0, i2), (0, i3), (9, 0), (9, 0)] [] m4 Q := by
    intro nlp9_5
    induction nlp9_5 with
    | zero =>
      intros
      exact absurd (by assumption : _ < 0) (Nat.not_lt_zero _)
    | succ nlp9_5 ihlp9_5 =>
      intro i2 i3 m4 hIm4 hFm4 li2 ui2 li3 ui3 hmlp9_5
      refine zw_3 zr_176_9 rfl ?_
      refine zw_7 zr_176_10 rfl ?_
      refine zw_C zr_176_11 (Or.inl rfl) zm_142 rfl rfl ⟨Nat.le_of_ble_eq_true rfl, Nat.le_of_ble_eq_true rfl, Nat.le_of_ble_eq_true rfl, rfl, by decide⟩ (by omega) (P := (fun v m' => zW E (d) 176 14 [(2, 69), (0, a0), (0, i2), (0, i3), (9, 0), (9, 0)] (if v.1 = 9 then [(0, i3)] else v :: [(0, i3)]) m' Q)) ?_ (fun _ _ h => h)
      generalize hQ1 : (fun v m' => zW E (d) 176 14 [(2, 69), (0, a0), (0, i2), (0, i3), (9, 0), (9, 0)] (if v.1 = 9 then [(0, i3)] else v :: [(0, i3)]) m' Q) = Q1
      show zW E (d - 1) 142 0 [(2, 69)] [] m4 Q1
      refine zw_7 zr_142_0 rfl ?_
      refine zw_46r (s := 70) zr_142_1 rfl rfl rfl rfl ?_
      refine zw_push zr_142_4 ?_
      obtain ⟨f7, ef7⟩ : ∃ v, m4 70 823 = v := ⟨_, rfl⟩
      have bf7 : 0 ≤ m4 70 823 ∧ m4 70 823 ≤ 60 := ib_70_meetings hIm4 (by omega)
      rw [ef7] at bf7
      refine zw_48k (c := 70) (len := 826) zr_142_7 rfl rfl (by omega) (by omega) (show (823 : Int).toNat = 823 by omega) ef7 ?_
      refine zw_R zr_142_8 (by decide) zm_142 (v := (0, f7)) rfl ?_
      rw [← hQ1]
      show zW E (d) 176 14 [(2, 69), (0, a0), (0, i2), (0, i3), (9, 0), (9, 0)] [(0, f7), (0, i3)] m4 Q
      refine zw_41_3 zr_176_14 ?_ ?_
      · intro h8
        refine zw_3 zr_176_129 rfl ?_
        refine zw_R zr_176_130 (by decide) zm_176 (v := (0, i2)) rfl ?_
        rw [← hQ]; exact ⟨_, rfl, by omega, by omega, hIm4, hFm4⟩
      · intro h9
        refine zw_7 zr_176_17 rfl ?_
        refine zw_46r (s := 76) zr_176_18 rfl rfl rfl rfl ?_
        refine zw_7 zr_176_21 rfl ?_
        refine zw_3 zr_176_22 rfl ?_
        refine zw_push zr_176_23 ?_
        refine zw_C zr_176_24 (Or.inl rfl) zm_144 rfl rfl ⟨Nat.le_of_ble_eq_true rfl, Nat.le_of_ble_eq_true rfl, Nat.le_of_ble_eq_true rfl, rfl, by decide⟩ (by omega) (P := (fun v m' => zW E (d) 176 27 [(2, 69), (0, a0), (0, i2), (0, i3), (9, 0), (9, 0)] (if v.1 = 9 then [(2, 76)] else v :: [(2, 76)]) m' Q)) ?_ (fun _ _ h => h)
        generalize hQ1 : (fun v m' => zW E (d) 176 27 [(2, 69), (0, a0), (0, i2), (0, i3), (9, 0), (9, 0)] (if v.1 = 9 then [(2, 76)] else v :: [(2, 76)]) m' Q) = Q1
        show zW E (d - 1) 144 0 [(2, 69), (0, i3), (0, 1)] [] m4 Q1
        refine zw_7 zr_144_0 rfl ?_
        refine zw_46r (s := 70) zr_144_1 rfl rfl rfl rfl ?_
        refine zw_push zr_144_4 ?_
        refine zw_push zr_144_6 ?_
        refine zw_3 zr_144_8 rfl ?_
        refine zw_18 zr_144_9 (by omega) ?_
        refine zw_16 zr_144_10 (by omega) ?_
        refine zw_3 zr_144_11 rfl ?_
        refine zw_16 zr_144_12 (by omega) ?_
        refine zw_48 (c := 70) (len := 826) zr_144_13 rfl rfl (by omega) (by omega) ?_
        intro x10 ex10
        have bx10 := ib_70_m1 hIm4 (k := (((90 + (6 * i3)) + 1)).toNat) (by omega)
        rw [← ex10] at bx10
        clear ex10
        refine zw_R zr_144_14 (by decide) zm_144 (v := (0, x10)) rfl ?_
        rw [← hQ1]
        show zW E (d) 176 27 [(2, 69), (0, a0), (0, i2), (0, i3), (9, 0), (9, 0)] [(0, x10), (2, 76)] m4 Q
        refine zw_48 (c := 76) (len := 10) zr_176_27 rfl rfl (by omega) (by omega) ?_
        intro x11 ex11
        have bx11 := hIm4.ra (c := 76) (len := 10) (k := (x10).toNat) rfl (by omega)
        rw [← ex11] at bx11
        clear ex11
        refine zw_7 zr_176_28 rfl ?_
        refine zw_46r (s := 76) zr_176_29 rfl rfl rfl rfl ?_
        refine zw_7 zr_176_32 rfl ?_
        refine zw_3 zr_176_33 rfl ?_
        refine zw_push zr_176_34 ?_
        refine zw_C zr_176_35 (Or.inl rfl) zm_144 rfl rfl ⟨Nat.le_of_ble_eq_true rfl, Nat.le_of_ble_eq_true rfl, Nat.le_of_ble_eq_true rfl, rfl, by decide⟩ (by omega) (P := (fun v m' => zW E (d) 176 38 [(2, 69), (0, a0), (0, i2), (0, i3), (9, 0), (9, 0)] (if v.1 = 9 then [(2, 76), (0, x11)] else v :: [(2, 76), (0, x11)]) m' Q)) ?_ (fun _ _ h => h)
        generalize hQ1 : (fun v m' => zW E (d) 176 38 [(2, 69), (0, a0), (0, i2), (0, i3), (9, 0), (9, 0)] (if v.1 = 9 then [(2, 76), (0, x11)] else v :: [(2, 76), (0, x11)]) m' Q) = Q1
        show zW E (d - 1) 144 0 [(2, 69), (0, i3), (0, 2)] [] m4 Q1
        refine zw_7 zr_144_0 rfl ?_
        refine zw_46r (s := 70) zr_144_1 rfl rfl rfl rfl ?_
        refine zw_push zr_144_4 ?_
        refine zw_push zr_144_6 ?_
        refine zw_3 zr_144_8 rfl ?_
        refine zw_18 zr_144_9 (by omega) ?_
        refine zw_16 zr_144_10 (by omega) ?_
        refine zw_3 zr_144_11 rfl ?_
        refine zw_16 zr_144_12 (by omega) ?_
        refine zw_48 (c := 70) (len := 826) zr_144_13 rfl rfl (by omega) (by omega) ?_
        intro x12 ex12
        have bx12 := ib_70_m2 hIm4 (k := (((90 + (6 * i3)) + 2)).toNat) (by omega)
        rw [← ex12] at bx12
        clear ex12
        refine zw_R zr_144_14 (by decide) zm_144 (v := (0, x12)) rfl ?_
        rw [← hQ1]
        show zW E (d) 176 38 [(2, 69), (0, a0), (0, i2), (0, i3), (9, 0), (9, 0)] [(0, x12), (2, 76), (0, x11)] m4 Q
        refine zw_48 (c := 76) (len := 10) zr_176_38 rfl rfl (by omega) (by omega) ?_
        intro x13 ex13
        have bx13 := hIm4.ra (c := 76) (len := 10) (k := (x12).toNat) rfl (by omega)
        rw [← ex13] at bx13
        clear ex13
        refine zw_17h zr_176_39 ?_
        intro x14 hx14a hx14b
        refine zw_10 (L' := [(2, 69), (0, a0), (0, i2), (0, i3), (0, x14), (9, 0)]) zr_176_40 (Nat.le_of_ble_eq_true rfl) rfl ?_
        refine zw_7 zr_176_42 rfl ?_
        refine zw_3 zr_176_43 rfl ?_
        refine zw_push zr_176_44 ?_
        refine zw_C zr_176_45 (Or.inl rfl) zm_144 rfl rfl ⟨Nat.le_of_ble_eq_true rfl, Nat.le_of_ble_eq_true rfl, Nat.le_of_ble_eq_true rfl, rfl, by decide⟩ (by omega) (P := (fun v m' => zW E (d) 176 48 [(2, 69), (0, a0), (0, i2), (0, i3), (0, x14), (9, 0)] (if v.1 = 9 then [] else v :: []) m' Q)) ?_ (fun _ _ h => h)
        generalize hQ1 : (fun v m' => zW E (d) 176 48 [(2, 69), (0, a0), (0, i2), (0, i3), (0, x14), (9, 0)] (if v.1 = 9 then [] else v :: []) m' Q) = Q1
        show zW E (d - 1) 144 0 [(2, 69), (0, i3), (0, 3)] [] m4 Q1
        refine zw_7 zr_144_0 rfl ?_
        refine zw_46r (s := 70) zr_144_1 rfl rfl rfl rfl ?_
        refine zw_push zr_144_4 ?_
        refine zw_push zr_144_6 ?_
        refine zw_3 zr_144_8 rfl ?_
        refine zw_18 zr_144_9 (by omega) ?_
        refine zw_16 zr_144_10 (by omega) ?_
        refine zw_3 zr_144_11 rfl ?_
        refine zw_16 zr_144_12 (by omega) ?_
        refine zw_48 (c := 70) (len := 826) zr_144_13 rfl rfl (by omega) (by omega) ?_
        intro x15 ex15
        have bx15 := ib_70_m3 hIm4 (k := (((90 + (6 * i3)) + 3)).toNat) (by omega)
        rw [← ex15] at bx15
        clear ex15
        refine zw_R zr_144_14 (by decide) zm_144 (v := (0, x15)) rfl ?_
        rw [← hQ1]
        show zW E (d) 176 48 [(2, 69), (0, a0), (0, i2), (0, i3), (0, x14), (9, 0)] [(0, x15)] m4 Q
        refine zw_10 (L' := [(2, 69), (0, a0), (0, i2), (0, i3), (0, x14), (0, x15)]) zr_176_48 (Nat.le_of_ble_eq_true rfl) rfl ?_
        refine zw_7 zr_176_50 rfl ?_
        refine zw_3 zr_176_51 rfl ?_
        refine zw_push zr_176_52 ?_
        refine zw_C zr_176_53 (Or.inl rfl) zm_144 rfl rfl ⟨Nat.le_of_ble_eq_true rfl, Nat.le_of_ble_eq_true rfl, Nat.le_of_ble_eq_true rfl, rfl, by decide⟩ (by omega) (P := (fun v m' => zW E (d) 176 56 [(2, 69), (0, a0), (0, i2), (0, i3), (0, x14), (0, x15)] (if v.1 = 9 then [] else v :: []) m' Q)) ?_ (fun _ _ h => h)
        generalize hQ1 : (fun v m' => zW E (d) 176 56 [(2, 69), (0, a0), (0, i2), (0, i3), (0, x14), (0, x15)] (if v.1 = 9 then [] else v :: []) m' Q) = Q1
        show zW E (d - 1) 144 0 [(2, 69), (0, i3), (0, 4)] [] m4 Q1
        refine zw_7 zr_144_0 rfl ?_
        refine zw_46r (s := 70) zr_144_1 rfl rfl rfl rfl ?_
        refine zw_push zr_144_4 ?_
        refine zw_push zr_144_6 ?_
        refine zw_3 zr_144_8 rfl ?_
        refine zw_18 zr_144_9 (by omega) ?_
        refine zw_16 zr_144_10 (by omega) ?_
        refine zw_3 zr_144_11 rfl ?_
        refine zw_16 zr_144_12 (by omega) ?_
        refine zw_48 (c := 70) (len := 826) zr_144_13 rfl rfl (by omega) (by omega) ?_
        intro x16 ex16
        have bx16 := ib_70_m4 hIm4 (k := (((90 + (6 * i3)) + 4)).toNat) (by omega)
        rw [← ex16] at bx16
        clear ex16
        refine zw_R zr_144_14 (by decide) zm_144 (v := (0, x16)) rfl ?_
        rw [← hQ1]
        show zW E (d) 176 56 [(2, 69), (0, a0), (0, i2), (0, i3), (0, x14), (0, x15)] [(0, x16)] m4 Q
        refine zw_40_4 zr_176_56 ?_ ?_
        · intro h17
          refine zw_7 zr_176_117 rfl ?_
          refine zw_3 zr_176_118 rfl ?_
          refine zw_3 zr_176_119 rfl ?_
          refine zw_C zr_176_120 (Or.inl rfl) zm_166 rfl rfl ⟨Nat.le_of_ble_eq_true rfl, Nat.le_of_ble_eq_true rfl, Nat.le_of_ble_eq_true rfl, rfl, by decide⟩ (by omega) (th_166 (d := d - 1) (by omega) hIm4 (a0 := a0) (a1 := i3)   (by omega) (by omega)) ?_
          rintro _ m18 ⟨rfl, hIm18, gm18⟩
          have hFm18 : zFr W_176 m0 m18 := hFm4.trans gm18 rfl
          have km18_70_823 : m18 70 823 = f7 := (gm18 70 823 rfl).trans ef7
          show zW E (d) 176 123 [(2, 69), (0, a0), (0, i2), (0, i3), (0, x14), (0, x15)] [] m18 Q
          refine zw_15 (c := 1) (L' := [(2, 69), (0, a0), (0, i2), (0, (i3 + 1)), (0, x14), (0, x15)]) zr_176_123 rfl (by decide) (by omega) rfl ?_
          refine zw_42 zr_176_126 ?_
          exact zw_less (L := [(2, 69), (0, a0), (0, i2), (0, (i3 + 1)), (9, 0), (9, 0)]) ⟨Or.inr rfl, Or.inr rfl, Or.inr rfl, Or.inr rfl, Or.inl rfl, Or.inl rfl, trivial⟩ (ihlp9_5 (i2) ((i3 + 1)) m18 hIm18 hFm18   (by omega) (by omega) (by omega) (by omega) (by omega))
        · intro h19
          refine zw_3 zr_176_59 rfl ?_
          refine zw_4 zr_176_60 rfl ?_
          refine zw_push zr_176_62 ?_
          refine zw_41_4 zr_176_63 ?_ ?_
          · intro h20
            refine zw_4 zr_176_89 rfl ?_
            refine zw_push zr_176_91 ?_
            refine zw_41_4 zr_176_92 ?_ ?_
            · intro h21
              refine zw_4 zr_176_100 rfl ?_
              refine zw_40_4 zr_176_102 ?_ ?_
              · intro h22
                refine zw_push zr_176_114 ?_
                refine zw_16 zr_176_115 (by omega) ?_
                refine zw_9 (L' := [(2, 69), (0, a0), (0, (i2 + 0)), (0, i3), (0, x14), (0, x15)]) zr_176_116 (Nat.le_of_ble_eq_true rfl) rfl ?_
                refine zw_7 zr_176_117 rfl ?_
                refine zw_3 zr_176_118 rfl ?_
                refine zw_3 zr_176_119 rfl ?_
                refine zw_C zr_176_120 (Or.inl rfl) zm_166 rfl rfl ⟨Nat.le_of_ble_eq_true rfl, Nat.le_of_ble_eq_true rfl, Nat.le_of_ble_eq_true rfl, rfl, by decide⟩ (by omega) (th_166 (d := d - 1) (by omega) hIm4 (a0 := a0) (a1 := i3)   (by omega) (by omega)) ?_
                rintro _ m23 ⟨rfl, hIm23, gm23⟩
                have hFm23 : zFr W_176 m0 m23 := hFm4.trans gm23 rfl
                have km23_70_823 : m23 70 823 = f7 := (gm23 70 823 rfl).trans ef7
                show zW E (d) 176 123 [(2, 69), (0, a0), (0, (i2 + 0)), (0, i3), (0, x14), (0, x15)] [] m23 Q
                refine zw_15 (c := 1) (L' := [(2, 69), (0, a0), (0, (i2 + 0)), (0, (i3 + 1)), (0, x14), (0, x15)]) zr_176_123 rfl (by decide) (by omega) rfl ?_
                refine zw_42 zr_176_126 ?_
                exact zw_less (L := [(2, 69), (0, a0), (0, (i2 + 0)), (0, (i3 + 1)), (9, 0), (9, 0)]) ⟨Or.inr rfl, Or.inr rfl, Or.inr rfl, Or.inr rfl, Or.inl rfl, Or.inl rfl, trivial⟩ (ihlp9_5 ((i2 + 0)) ((i3 + 1)) m23 hIm23 hFm23   (by omega) (by omega) (by omega) (by omega) (by omega))
              · intro h24
                refine zw_4 zr_176_105 rfl ?_
                refine zw_40_3 zr_176_107 ?_ ?_
                · intro h25
                  refine zw_push zr_176_114 ?_
                  refine zw_16 zr_176_115 (by omega) ?_
                  refine zw_9 (L' := [(2, 69), (0, a0), (0, (i2 + 0)), (0, i3), (0, x14), (0, x15)]) zr_176_116 (Nat.le_of_ble_eq_true rfl) rfl ?_
                  refine zw_7 zr_176_117 rfl ?_
                  refine zw_3 zr_176_118 rfl ?_
                  refine zw_3 zr_176_119 rfl ?_
                  refine zw_C zr_176_120 (Or.inl rfl) zm_166 rfl rfl ⟨Nat.le_of_ble_eq_true rfl, Nat.le_of_ble_eq_true rfl, Nat.le_of_ble_eq_true rfl, rfl, by decide⟩ (by omega) (th_166 (d := d - 1) (by omega) hIm4 (a0 := a0) (a1 := i3)   (by omega) (by omega)) ?_
                  rintro _ m26 ⟨rfl, hIm26, gm26⟩
                  have hFm26 : zFr W_176 m0 m26 := hFm4.trans gm26 rfl
                  have km26_70_823 : m26 70 823 = f7 := (gm26 70 823 rfl).trans ef7
                  show zW E (d) 176 123 [(2, 69), (0, a0), (0, (i2 + 0)), (0, i3), (0, x14), (0, x15)] [] m26 Q
                  refine zw_15 (c := 1) (L' := [(2, 69), (0, a0), (0, (i2 + 0)), (0, (i3 + 1)), (0, x14), (0, x15)]) zr_176_123 rfl (by decide) (by omega) rfl ?_
                  refine zw_42 zr_176_126 ?_
                  exact zw_less (L := [(2, 69), (0, a0), (0, (i2 + 0)), (0, (i3 + 1)), (9, 0), (9, 0)]) ⟨Or.inr rfl, Or.inr rfl, Or.inr rfl, Or.inr rfl, Or.inl rfl, Or.inl rfl, trivial⟩ (ihlp9_5 ((i2 + 0)) ((i3 + 1)) m26 hIm26 hFm26   (by omega) (by omega) (by omega) (by omega) (by omega))
                · intro h27
                  refine zw_push zr_176_110 ?_
                  refine zw_42 zr_176_111 ?_
                  refine zw_16h zr_176_115 ?_
                  intro x28 hx28a hx28b
                  refine zw_9 (L' := [(2, 69), (0, a0), (0, x28), (0, i3), (0, x14), (0, x15)]) zr_176_116 (Nat.le_of_ble_eq_true rfl) rfl ?_
                  refine zw_7 zr_176_117 rfl ?_
                  refine zw_3 zr_176_118 rfl ?_
                  refine zw_3 zr_176_119 rfl ?_
                  refine zw_C zr_176_120 (Or.inl rfl) zm_166 rfl rfl ⟨Nat.le_of_ble_eq_true rfl, Nat.le_of_ble_eq_true rfl, Nat.le_of_ble_eq_true rfl, rfl, by decide⟩ (by omega) (th_166 (d := d - 1) (by omega) hIm4 (a0 := a0) (a1 := i3)   (by omega) (by omega)) ?_
                  rintro _ m29 ⟨rfl, hIm29, gm29⟩
                  have hFm29 : zFr W_176 m0 m29 := hFm4.trans gm29 rfl
                  have km29_70_823 : m29 70 823 = f7 := (gm29 70 823 rfl).trans ef7
                  show zW E (d) 176 123 [(2, 69), (0, a0), (0, x28), (0, i3), (0, x14), (0, x15)] [] m29 Q
                  refine zw_15 (c := 1) (L' := [(2, 69), (0, a0), (0, x28), (0, (i3 + 1)), (0, x14), (0, x15)]) zr_176_123 rfl (by decide) (by omega) rfl ?_
                  refine zw_42 zr_176_126 ?_
                  exact zw_less (L := [(2, 69), (0, a0), (0, x28), (0, (i3 + 1)), (9, 0), (9, 0)]) ⟨Or.inr rfl, Or.inr rfl, Or.inr rfl, Or.inr rfl, Or.inl rfl, Or.inl rfl, trivial⟩ (ihlp9_5 (x28) ((i3 + 1)) m29 hIm29 hFm29   (by omega) (by omega) (by omega) (by omega) (by omega))
            · intro h30
              refine zw_4 zr_176_95 rfl ?_
              refine zw_40_2 zr_176_97 ?_ ?_
              · intro h31
                refine zw_push zr_176_110 ?_
                refine zw_42 zr_176_111 ?_
                refine zw_16h zr_176_115 ?_
                intro x32 hx32a hx32b
                refine zw_9 (L' := [(2, 69), (0, a0), (0, x32), (0, i3), (0, x14), (0, x15)]) zr_176_116 (Nat.le_of_ble_eq_true rfl) rfl ?_
                refine zw_7 zr_176_117 rfl ?_
                refine zw_3 zr_176_118 rfl ?_
                refine zw_3 zr_176_119 rfl ?_
                refine zw_C zr_176_120 (Or.inl rfl) zm_166 rfl rfl ⟨Nat.le_of_ble_eq_true rfl, Nat.le_of_ble_eq_true rfl, Nat.le_of_ble_eq_true rfl, rfl, by decide⟩ (by omega) (th_166 (d := d - 1) (by omega) hIm4 (a0 := a0) (a1 := i3)   (by omega) (by omega)) ?_
                rintro _ m33 ⟨rfl, hIm33, gm33⟩
                have hFm33 : zFr W_176 m0 m33 := hFm4.trans gm33 rfl
                have km33_70_823 : m33 70 823 = f7 := (gm33 70 823 rfl).trans ef7
                show zW E (d) 176 123 [(2, 69), (0, a0), (0, x32), (0, i3), (0, x14), (0, x15)] [] m33 Q
                refine zw_15 (c := 1) (L' := [(2, 69), (0, a0), (0, x32), (0, (i3 + 1)), (0, x14), (0, x15)]) zr_176_123 rfl (by decide) (by omega) rfl ?_
                refine zw_42 zr_176_126 ?_
                exact zw_less (L := [(2, 69), (0, a0), (0, x32), (0, (i3 + 1)), (9, 0), (9, 0)]) ⟨Or.inr rfl, Or.inr rfl, Or.inr rfl, Or.inr rfl, Or.inl rfl, Or.inl rfl, trivial⟩ (ihlp9_5 (x32) ((i3 + 1)) m33 hIm33 hFm33   (by omega) (by omega) (by omega) (by omega) (by omega))
              · intro h34
                refine zw_4 zr_176_100 rfl ?_
                refine zw_40_4 zr_176_102 ?_ ?_
                · intro h35
                  refine zw_push zr_176_114 ?_
                  refine zw_16 zr_176_115 (by omega) ?_
                  refine zw_9 (L' := [(2, 69), (0, a0), (0, (i2 + 0)), (0, i3), (0, x14), (0, x15)]) zr_176_116 (Nat.le_of_ble_eq_true rfl) rfl ?_
                  refine zw_7 zr_176_117 rfl ?_
                  refine zw_3 zr_176_118 rfl ?_
                  refine zw_3 zr_176_119 rfl ?_
                  refine zw_C zr_176_120 (Or.inl rfl) zm_166 rfl rfl ⟨Nat.le_of_ble_eq_true rfl, Nat.le_of_ble_eq_true rfl, Nat.le_of_ble_eq_true rfl, rfl, by decide⟩ (by omega) (th_166 (d := d - 1) (by omega) hIm4 (a0 := a0) (a1 := i3)   (by omega) (by omega)) ?_
                  rintro _ m36 ⟨rfl, hIm36, gm36⟩
                  have hFm36 : zFr W_176 m0 m36 := hFm4.trans gm36 rfl
                  have km36_70_823 : m36 70 823 = f7 := (gm36 70 823 rfl).trans ef7
                  show zW E (d) 176 123 [(2, 69), (0, a0), (0, (i2 + 0)), (0, i3), (0, x14), (0, x15)] [] m36 Q
                  refine zw_15 (c := 1) (L' := [(2, 69), (0, a0), (0, (i2 + 0)), (0, (i3 + 1)), (0, x14), (0, x15)]) zr_176_123 rfl (by decide) (by omega) rfl ?_
                  refine zw_42 zr_176_126 ?_
                  exact zw_less (L := [(2, 69), (0, a0), (0, (i2 + 0)), (0, (i3 + 1)), (9, 0), (9, 0)]) ⟨Or.inr rfl, Or.inr rfl, Or.inr rfl, Or.inr rfl, Or.inl rfl, Or.inl rfl, trivial⟩ (ihlp9_5 ((i2 + 0)) ((i3 + 1)) m36 hIm36 hFm36   (by omega) (by omega) (by omega) (by omega) (by omega))
                · intro h37; omega
          · intro h38
            refine zw_4 zr_176_66 rfl ?_
            refine zw_36 zr_176_68 ?_
            refine zw_push zr_176_69 ?_
            refine zw_push zr_176_72 ?_
            refine zw_C zr_176_75 (Or.inr rfl) zm_140 rfl rfl ⟨Nat.le_of_ble_eq_true rfl, Nat.le_of_ble_eq_true rfl, Nat.le_of_ble_eq_true rfl, rfl, by decide⟩ (by omega) (P := (fun v m' => zW E (d) 176 78 [(2, 69), (0, a0), (0, i2), (0, i3), (0, x14), (0, x15)] (if v.1 = 9 then [(0, i2)] else v :: [(0, i2)]) m' Q)) ?_ (fun _ _ h => h)
            generalize hQ1 : (fun v m' => zW E (d) 176 78 [(2, 69), (0, a0), (0, i2), (0, i3), (0, x14), (0, x15)] (if v.1 = 9 then [(0, i2)] else v :: [(0, i2)]) m' Q) = Q1
            show zW E (d - 1) 140 0 [(1, x14), (9, 0), (1, (-50)), (9, 0), (1, 50), (9, 0)] [] m4 Q1
            refine zw_5 zr_140_0 rfl ?_
            refine zw_5 zr_140_1 rfl ?_
            refine zw_39_0 zr_140_2 zr_140_3 ?_ ?_
            · intro h39
              refine zw_push zr_140_17 ?_
              refine zw_R zr_140_18 (by decide) zm_140 (v := (0, 0)) (zRetB (by omega)) ?_
              rw [← hQ1]
              show zW E (d) 176 78 [(2, 69), (0, a0), (0, i2), (0, i3), (0, x14), (0, x15)] [(0, 0), (0, i2)] m4 Q
              refine zw_40_1 zr_176_78 ?_ ?_
              · intro h40
                refine zw_push zr_176_85 ?_
                refine zw_42 zr_176_86 ?_
                refine zw_16 zr_176_115 (by omega) ?_
                refine zw_9 (L' := [(2, 69), (0, a0), (0, (i2 + 0)), (0, i3), (0, x14), (0, x15)]) zr_176_116 (Nat.le_of_ble_eq_true rfl) rfl ?_
                refine zw_7 zr_176_117 rfl ?_
                refine zw_3 zr_176_118 rfl ?_
                refine zw_3 zr_176_119 rfl ?_
                refine zw_C zr_176_120 (Or.inl rfl) zm_166 rfl rfl ⟨Nat.le_of_ble_eq_true rfl, Nat.le_of_ble_eq_true rfl, Nat.le_of_ble_eq_true rfl, rfl, by decide⟩ (by omega) (th_166 (d := d - 1) (by omega) hIm4 (a0 := a0) (a1 := i3)   (by omega) (by omega)) ?_
                rintro _ m41 ⟨rfl, hIm41, gm41⟩
                have hFm41 : zFr W_176 m0 m41 := hFm4.trans gm41 rfl
                have km41_70_823 : m41 70 823 = f7 := (gm41 70 823 rfl).trans ef7
                show zW E (d) 176 123 [(2, 69), (0, a0), (0, (i2 + 0)), (0, i3), (0, x14), (0, x15)] [] m41 Q
                refine zw_15 (c := 1) (L' := [(2, 69), (0, a0), (0, (i2 + 0)), (0, (i3 + 1)), (0, x14), (0, x15)]) zr_176_123 rfl (by decide) (by omega) rfl ?_
                refine zw_42 zr_176_126 ?_
                exact zw_less (L := [(2, 69), (0, a0), (0, (i2 + 0)), (0, (i3 + 1)), (9, 0), (9, 0)]) ⟨Or.inr rfl, Or.inr rfl, Or.inr rfl, Or.inr rfl, Or.inl rfl, Or.inl rfl, trivial⟩ (ihlp9_5 ((i2 + 0)) ((i3 + 1)) m41 hIm41 hFm41   (by omega) (by omega) (by omega) (by omega) (by omega))
              · intro h42; omega
            · intro h43
              refine zw_5 zr_140_6 rfl ?_
              refine zw_6 zr_140_7 rfl ?_
              refine zw_39_2 zr_140_9 zr_140_10 ?_ ?_
              · intro h44
                refine zw_push zr_140_17 ?_
                refine zw_R zr_140_18 (by decide) zm_140 (v := (0, 0)) (zRetB (by omega)) ?_
                rw [← hQ1]
                show zW E (d) 176 78 [(2, 69), (0, a0), (0, i2), (0, i3), (0, x14), (0, x15)] [(0, 0), (0, i2)] m4 Q
                refine zw_40_1 zr_176_78 ?_ ?_
                · intro h45
                  refine zw_push zr_176_85 ?_
                  refine zw_42 zr_176_86 ?_
                  refine zw_16 zr_176_115 (by omega) ?_
                  refine zw_9 (L' := [(2, 69), (0, a0), (0, (i2 + 0)), (0, i3), (0, x14), (0, x15)]) zr_176_116 (Nat.le_of_ble_eq_true rfl) rfl ?_
                  refine zw_7 zr_176_117 rfl ?_
                  refine zw_3 zr_176_118 rfl ?_
                  refine zw_3 zr_176_119 rfl ?_
                  refine zw_C zr_176_120 (Or.inl rfl) zm_166 rfl rfl ⟨Nat.le_of_ble_eq_true rfl, Nat.le_of_ble_eq_true rfl, Nat.le_of_ble_eq_true rfl, rfl, by decide⟩ (by omega) (th_166 (d := d - 1) (by omega) hIm4 (a0 := a0) (a1 := i3)   (by omega) (by omega)) ?_
                  rintro _ m46 ⟨rfl, hIm46, gm46⟩
                  have hFm46 : zFr W_176 m0 m46 := hFm4.trans gm46 rfl
                  have km46_70_823 : m46 70 823 = f7 := (gm46 70 823 rfl).trans ef7
                  show zW E (d) 176 123 [(2, 69), (0, a0), (0, (i2 + 0)), (0, i3), (0, x14), (0, x15)] [] m46 Q
                  refine zw_15 (c := 1) (L' := [(2, 69), (0, a0), (0, (i2 + 0)), (0, (i3 + 1)), (0, x14), (0, x15)]) zr_176_123 rfl (by decide) (by omega) rfl ?_
                  refine zw_42 zr_176_126 ?_
                  exact zw_less (L := [(2, 69), (0, a0), (0, (i2 + 0)), (0, (i3 + 1)), (9, 0), (9, 0)]) ⟨Or.inr rfl, Or.inr rfl, Or.inr rfl, Or.inr rfl, Or.inl rfl, Or.inl rfl, trivial⟩ (ihlp9_5 ((i2 + 0)) ((i3 + 1)) m46 hIm46 hFm46   (by omega) (by omega) (by omega) (by omega) (by omega))
                · intro h47; omega
              · intro h48
                refine zw_push zr_140_13 ?_
                refine zw_42 zr_140_14 ?_
                refine zw_R zr_140_18 (by decide) zm_140 (v := (0, 1)) (zRetB (by omega)) ?_
                rw [← hQ1]
                show zW E (d) 176 78 [(2, 69), (0, a0), (0, i2), (0, i3), (0, x14), (0, x15)] [(0, 1), (0, i2)] m4 Q
                refine zw_40_1 zr_176_78 ?_ ?_
                · intro h49; omega
                · intro h50
                  refine zw_push zr_176_81 ?_
                  refine zw_42 zr_176_82 ?_
                  refine zw_16h zr_176_115 ?_
                  intro x51 hx51a hx51b
                  refine zw_9 (L' := [(2, 69), (0, a0), (0, x51), (0, i3), (0, x14), (0, x15)]) zr_176_116 (Nat.le_of_ble_eq_true rfl) rfl ?_
                  refine zw_7 zr_176_117 rfl ?_
                  refine zw_3 zr_176_118 rfl ?_
                  refine zw_3 zr_176_119 rfl ?_
                  refine zw_C zr_176_120 (Or.inl rfl) zm_166 rfl rfl ⟨Nat.le_of_ble_eq_true rfl, Nat.le_of_ble_eq_true rfl, Nat.le_of_ble_eq_true rfl, rfl, by decide⟩ (by omega) (th_166 (d := d - 1) (by omega) hIm4 (a0 := a0) (a1 := i3)   (by omega) (by omega)) ?_
                  rintro _ m52 ⟨rfl, hIm52, gm52⟩
                  have hFm52 : zFr W_176 m0 m52 := hFm4.trans gm52 rfl
                  have km52_70_823 : m52 70 823 = f7 := (gm52 70 823 rfl).trans ef7
                  show zW E (d) 176 123 [(2, 69), (0, a0), (0, x51), (0, i3), (0, x14), (0, x15)] [] m52 Q
                  refine zw_15 (c := 1) (L' := [(2, 69), (0, a0), (0, x51), (0, (i3 + 1)), (0, x14), (0, x15)]) zr_176_123 rfl (by decide) (by omega) rfl ?_
                  refine zw_42 zr_176_126 ?_
                  exact zw_less (L := [(2, 69), (0, a0), (0, x51), (0, (i3 + 1)), (9, 0), (9, 0)]) ⟨Or.inr rfl, Or.inr rfl, Or.inr rfl, Or.inr rfl, Or.inl rfl, Or.inl rfl, trivial⟩ (ihlp9_5 (x51) ((i3 + 1)) m52 hIm52 hFm52   (by omega) (by omega) (by omega) (by omega) (by omega))
  exact lp9_5 _ (0) (0) m1 hIm1 hFm1   (by omega) (by omega) (by omega) (by omega) (Nat.lt_succ_self _)

abbrev W_177 : List (Nat × Nat) := [(69, 5), (69, 6), (69, 7), (69, 9), (69, 11), (69, 13), (69, 17), (69, 18), (73, 1000), (74, 1000), (75, 1000), (76, 1000), (77, 1000), (78, 1000)]
set_option maxHeartbeats 8000000 in
theorem th_177 {E : zE} {d : Nat} {m0 : zM} {a0 : Int} (hd : 10 ≤ d) (hI0 : zInv m0) (ha0 : (-2147483648) ≤ a0 ∧ a0 ≤ 2147483647) : zC E d 177 [(2, 69), (0, a0)] m0 (fun v m' => ∃ r : Int, v = (0, r) ∧ (-2147483648) ≤ r ∧ r ≤ 2147483647 ∧ zInv m' ∧ zFr W_177 m0 m') := by
  have hF0 : zFr W_177 m0 m0 := zFr.rfl
  generalize hQ : (fun (v : zV) (m' : zM) => ∃ r : Int, v = (0, r) ∧ (-2147483648) ≤ r ∧ r ≤ 2147483647 ∧ zInv m' ∧ zFr W_177 m0 m') = Q
  show zW E d 177 0 [(2, 69), (0, a0)] [] m0 Q
  refine zw_3 zr_177_0 rfl ?_
  refine zw_C zr_177_1 (Or.inr rfl) zm_148 rfl rfl ⟨Nat.le_of_ble_eq_true rfl, Nat.le_of_ble_eq_true rfl, Nat.le_of_ble_eq_true rfl, rfl, by decide⟩ (by omega) (P := (fun v m' => zW E (d) 177 4 [(2, 69), (0, a0)] (if v.1 = 9 then [] else v :: []) m' Q)) ?_ (fun _ _ h => h)
  generalize hQ1 : (fun v m' => zW E (d) 177 4 [(2, 69), (0, a0)] (if v.1 = 9 then [] else v :: []) m' Q) = Q1
  show zW E (d - 1) 148 0 [(0, a0)] [] m0 Q1
  refine zw_3 zr_148_0 rfl ?_
  refine zw_36 zr_148_1 ?_
  refine zw_push zr_148_2 ?_
  refine zw_push zr_148_3 ?_
  refine zw_C zr_148_6 (Or.inr rfl) zm_140 rfl rfl ⟨Nat.le_of_ble_eq_true rfl, Nat.le_of_ble_eq_true rfl, Nat.le_of_ble_eq_true rfl, rfl, by decide⟩ (by omega) (P := (fun v m' => zW E (d - 1) 148 9 [(0, a0)] (if v.1 = 9 then [] else v :: []) m' Q1)) ?_ (fun _ _ h => h)
  generalize hQ2 : (fun v m' => zW E (d - 1) 148 9 [(0, a0)] (if v.1 = 9 then [] else v :: []) m' Q1) = Q2
  show zW E (d - 1 - 1) 140 0 [(1, a0), (9, 0), (1, 0), (9, 0), (1, 3), (9, 0)] [] m0 Q2
  refine zw_5 zr_140_0 rfl ?_
  refine zw_5 zr_140_1 rfl ?_
  refine zw_39_0 zr_140_2 zr_140_3 ?_ ?_
  · intro h1
    refine zw_push zr_140_17 ?_
    refine zw_R zr_140_18 (by decide) zm_140 (v := (0, 0)) (zRetB (by omega)) ?_
    rw [← hQ2]
    show zW E (d - 1) 148 9 [(0, a0)] [(0, 0)] m0 Q1
    refine zw_R zr_148_9 (by decide) zm_148 (v := (0, 0)) (zRetB (by omega)) ?_
    rw [← hQ1]
    show zW E (d) 177 4 [(2, 69), (0, a0)] [(0, 0)] m0 Q
    refine zw_40_1 zr_177_4 ?_ ?_
    · intro h2
      refine zw_push zr_177_15 ?_
      refine zw_R zr_177_17 (by decide) zm_177 (v := (0, (-2))) rfl ?_
      rw [← hQ]; exact ⟨_, rfl, by omega, by omega, hI0, hF0⟩
    · intro h3; omega
  · intro h4
    refine zw_5 zr_140_6 rfl ?_
    refine zw_6 zr_140_7 rfl ?_
    refine zw_39_2 zr_140_9 zr_140_10 ?_ ?_
    · intro h5
      refine zw_push zr_140_17 ?_
      refine zw_R zr_140_18 (by decide) zm_140 (v := (0, 0)) (zRetB (by omega)) ?_
      rw [← hQ2]
      show zW E (d - 1) 148 9 [(0, a0)] [(0, 0)] m0 Q1
      refine zw_R zr_148_9 (by decide) zm_148 (v := (0, 0)) (zRetB (by omega)) ?_
      rw [← hQ1]
      show zW E (d) 177 4 [(2, 69), (0, a0)] [(0, 0)] m0 Q
      refine zw_40_1 zr_177_4 ?_ ?_
      · intro h6
        refine zw_push zr_177_15 ?_
        refine zw_R zr_177_17 (by decide) zm_177 (v := (0, (-2))) rfl ?_
        rw [← hQ]; exact ⟨_, rfl, by omega, by omega, hI0, hF0⟩
      · intro h7; omega
    · intro h8
      refine zw_push zr_140_13 ?_
      refine zw_42 zr_140_14 ?_
      refine zw_R zr_140_18 (by decide) zm_140 (v := (0, 1)) (zRetB (by omega)) ?_
      rw [← hQ2]
      show zW E (d - 1) 148 9 [(0, a0)] [(0, 1)] m0 Q1
      refine zw_R zr_148_9 (by decide) zm_148 (v := (0, 1)) (zRetB (by omega)) ?_
      rw [← hQ1]
      show zW E (d) 177 4 [(2, 69), (0, a0)] [(0, 1)] m0 Q
      refine zw_40_1 zr_177_4 ?_ ?_
      · intro h9; omega
      · intro h10
        refine zw_7 zr_177_7 rfl ?_
        refine zw_3 zr_177_8 rfl ?_
        refine zw_C zr_177_9 (Or.inl rfl) zm_176 rfl rfl ⟨Nat.le_of_ble_eq_true rfl, Nat.le_of_ble_eq_true rfl, Nat.le_of_ble_eq_true rfl, rfl, by decide⟩ (by omega) (th_176 (d := d - 1) (by omega) hI0 (a0 := a0)   (by omega)) ?_
        rintro _ m11 ⟨r12, rfl, hr12a, hr12b, hIm11, gm11⟩
        have hFm11 : zFr W_177 m0 m11 := hF0.trans gm11 rfl
        show zW E (d) 177 12 [(2, 69), (0, a0)] [(0, r12)] m11 Q
        refine zw_42 zr_177_12 ?_
        refine zw_R zr_177_17 (by decide) zm_177 (v := (0, r12)) rfl ?_
        rw [← hQ]; exact ⟨_, rfl, by omega, by omega, hIm11, hFm11⟩

abbrev W_114 : List (Nat × Nat) := [(43, 5), (44, 1000), (45, 1), (45, 5), (45, 6), (45, 7), (45, 8), (45, 9), (46, 1000), (47, 1000), (48, 1000), (49, 1000), (50, 1000), (51, 1000)]
set_option maxHeartbeats 8000000 in
theorem th_114 {E : zE} {d : Nat} {m0 : zM} (hd : 96 ≤ d) (hI0 : zInv m0) : zC E d 114 [(2, 0)] m0 (fun v m' => ∃ r : Int, v = (0, r) ∧ (-1) ≤ r ∧ r ≤ 3 ∧ zInv m' ∧ zFr W_114 m0 m') := by
  have hF0 : zFr W_114 m0 m0 := zFr.rfl
  generalize hQ : (fun (v : zV) (m' : zM) => ∃ r : Int, v = (0, r) ∧ (-1) ≤ r ∧ r ≤ 3 ∧ zInv m' ∧ zFr W_114 m0 m') = Q
  show zW E d 114 0 [(2, 0), (9, 0), (9, 0), (9, 0), (9, 0)] [] m0 Q
  refine zw_push zr_114_0 ?_
  refine zw_9 (L' := [(2, 0), (0, (-1)), (9, 0), (9, 0), (9, 0)]) zr_114_1 (Nat.le_of_ble_eq_true rfl) rfl ?_
  refine zw_push zr_114_2 ?_
  refine zw_9 (L' := [(2, 0), (0, (-1)), (0, (-1)), (9, 0), (9, 0)]) zr_114_3 (Nat.le_of_ble_eq_true rfl) rfl ?_
  refine zw_push zr_114_4 ?_
  refine zw_9 (L' := [(2, 0), (0, (-1)), (0, (-1)), (0, 0), (9, 0)]) zr_114_5 (Nat.le_of_ble_eq_true rfl) rfl ?_
  have lp6_5 : ∀ (nlp6_5 : Nat) (i1 i2 i3 : Int) (m4 : zM), zInv m4 → zFr W_114 m0 m4 → (-1) ≤ i1 → i1 ≤ 3 → (-1) ≤ i2 → i2 ≤ 2147483647 → 0 ≤ i3 → i3 ≤ 4 → (4 - i3).toNat < nlp6_5 → zW E (d) 114 6 [(2, 0), (0, i1), (0, i2), (0, i3), (9, 0)] [] m4 Q := by
    intro nlp6_5
    induction nlp6_5 with
    | zero =>
      intros
      exact absurd (by assumption : _ < 0) (Nat.not_lt_zero _)
    | succ nlp6_5 ihlp6_5 =>
      intro i1 i2 i3 m4 hIm4 hFm4 li1 ui1 li2 ui2 li3 ui3 hmlp6_5
      refine zw_3 zr_114_6 rfl ?_
      refine zw_push zr_114_7 ?_
      refine zw_41_3 zr_114_8 ?_ ?_
      · intro h7
        refine zw_3 zr_114_48 rfl ?_
        refine zw_R zr_114_49 (by decide) zm_114 (v := (0, i1)) rfl ?_
        rw [← hQ]; exact ⟨_, rfl, by omega, by omega, hIm4, hFm4⟩
      · intro h8
        refine zw_7 zr_114_11 rfl ?_
        refine zw_46r (s := 43) zr_114_12 rfl rfl rfl rfl ?_
        refine zw_3 zr_114_15 rfl ?_
        refine zw_C zr_114_16 (Or.inl rfl) zm_47 rfl rfl ⟨Nat.le_of_ble_eq_true rfl, Nat.le_of_ble_eq_true rfl, Nat.le_of_ble_eq_true rfl, rfl, by decide⟩ (by omega) (th_47 (d := d - 1) (by omega) hIm4 (a0 := i3)   (by omega)) ?_
        rintro _ m9 ⟨r10, rfl, hr10a, hr10b, hIm9, gm9⟩
        have hFm9 : zFr W_114 m0 m9 := hFm4.trans gm9 rfl
        show zW E (d) 114 19 [(2, 0), (0, i1), (0, i2), (0, i3), (9, 0)] [(0, r10)] m9 Q
        refine zw_10 (L' := [(2, 0), (0, i1), (0, i2), (0, i3), (0, r10)]) zr_114_19 (Nat.le_of_ble_eq_true rfl) rfl ?_
        refine zw_7 zr_114_21 rfl ?_
        refine zw_46r (s := 43) zr_114_22 rfl rfl rfl rfl ?_
        refine zw_C zr_114_25 (Or.inl rfl) zm_17 rfl rfl ⟨Nat.le_of_ble_eq_true rfl, Nat.le_of_ble_eq_true rfl, Nat.le_of_ble_eq_true rfl, rfl, by decide⟩ (by omega) (P := (fun v m' => zW E (d) 114 28 [(2, 0), (0, i1), (0, i2), (0, i3), (0, r10)] (if v.1 = 9 then [] else v :: []) m' Q)) ?_ (fun _ _ h => h)
        generalize hQ1 : (fun v m' => zW E (d) 114 28 [(2, 0), (0, i1), (0, i2), (0, i3), (0, r10)] (if v.1 = 9 then [] else v :: []) m' Q) = Q1
        show zW E (d - 1) 17 0 [(2, 43)] [] m9 Q1
        refine zw_7 zr_17_0 rfl ?_
        refine zw_46r (s := 45) zr_17_1 rfl rfl rfl rfl ?_
        obtain ⟨f11, ef11⟩ : ∃ v, m9 45 1 = v := ⟨_, rfl⟩
        have bf11 := hIm9.fi (c := 45) (k := 1) rfl
        rw [ef11] at bf11
        refine zw_46i zr_17_4 ef11 rfl rfl rfl ?_
        refine zw_push zr_17_7 ?_
        refine zw_41_1 zr_17_8 ?_ ?_
        · intro h12
          refine zw_push zr_17_15 ?_
          refine zw_R zr_17_16 (by decide) zm_17 (v := (0, 0)) (zRetB (by omega)) ?_
          rw [← hQ1]
          show zW E (d) 114 28 [(2, 0), (0, i1), (0, i2), (0, i3), (0, r10)] [(0, 0)] m9 Q
          refine zw_40_4 zr_114_28 ?_ ?_
          · intro h13; omega
          · intro h14
            refine zw_4 zr_114_31 rfl ?_
            refine zw_3 zr_114_33 rfl ?_
            refine zw_41_5 zr_114_34 ?_ ?_
            · intro h15
              refine zw_15 (c := 1) (L' := [(2, 0), (0, i1), (0, i2), (0, (i3 + 1)), (0, r10)]) zr_114_42 rfl (by decide) (by omega) rfl ?_
              refine zw_42 zr_114_45 ?_
              exact zw_less (L := [(2, 0), (0, i1), (0, i2), (0, (i3 + 1)), (9, 0)]) ⟨Or.inr rfl, Or.inr rfl, Or.inr rfl, Or.inr rfl, Or.inl rfl, trivial⟩ (ihlp6_5 (i1) (i2) ((i3 + 1)) m9 hIm9 hFm9   (by omega) (by omega) (by omega) (by omega) (by omega) (by omega) (by omega))
            · intro h16
              refine zw_3 zr_114_37 rfl ?_
              refine zw_9 (L' := [(2, 0), (0, i3), (0, i2), (0, i3), (0, r10)]) zr_114_38 (Nat.le_of_ble_eq_true rfl) rfl ?_
              refine zw_4 zr_114_39 rfl ?_
              refine zw_9 (L' := [(2, 0), (0, i3), (0, r10), (0, i3), (0, r10)]) zr_114_41 (Nat.le_of_ble_eq_true rfl) rfl ?_
              refine zw_15 (c := 1) (L' := [(2, 0), (0, i3), (0, r10), (0, (i3 + 1)), (0, r10)]) zr_114_42 rfl (by decide) (by omega) rfl ?_
              refine zw_42 zr_114_45 ?_
              exact zw_less (L := [(2, 0), (0, i3), (0, r10), (0, (i3 + 1)), (9, 0)]) ⟨Or.inr rfl, Or.inr rfl, Or.inr rfl, Or.inr rfl, Or.inl rfl, trivial⟩ (ihlp6_5 (i3) (r10) ((i3 + 1)) m9 hIm9 hFm9   (by omega) (by omega) (by omega) (by omega) (by omega) (by omega) (by omega))
        · intro h17
          refine zw_push zr_17_11 ?_
          refine zw_42 zr_17_12 ?_
          refine zw_R zr_17_16 (by decide) zm_17 (v := (0, 1)) (zRetB (by omega)) ?_
          rw [← hQ1]
          show zW E (d) 114 28 [(2, 0), (0, i1), (0, i2), (0, i3), (0, r10)] [(0, 1)] m9 Q
          refine zw_40_4 zr_114_28 ?_ ?_
          · intro h18
            refine zw_15 (c := 1) (L' := [(2, 0), (0, i1), (0, i2), (0, (i3 + 1)), (0, r10)]) zr_114_42 rfl (by decide) (by omega) rfl ?_
            refine zw_42 zr_114_45 ?_
            exact zw_less (L := [(2, 0), (0, i1), (0, i2), (0, (i3 + 1)), (9, 0)]) ⟨Or.inr rfl, Or.inr rfl, Or.inr rfl, Or.inr rfl, Or.inl rfl, trivial⟩ (ihlp6_5 (i1) (i2) ((i3 + 1)) m9 hIm9 hFm9   (by omega) (by omega) (by omega) (by omega) (by omega) (by omega) (by omega))
          · intro h19; omega
  exact lp6_5 _ ((-1)) ((-1)) (0) m0 hI0 hF0   (by omega) (by omega) (by omega) (by omega) (by omega) (by omega) (Nat.lt_succ_self _)

abbrev W_178 : List (Nat × Nat) := [(69, 5), (69, 6), (69, 7), (69, 9), (69, 11), (69, 13), (69, 17), (69, 18), (73, 1000), (74, 1000), (75, 1000), (76, 1000), (77, 1000), (78, 1000)]
set_option maxHeartbeats 8000000 in
theorem th_178 {E : zE} {d : Nat} {m0 : zM} (hd : 10 ≤ d) (hI0 : zInv m0) : zC E d 178 [(2, 69)] m0 (fun v m' => ∃ r : Int, v = (0, r) ∧ (-1) ≤ r ∧ r ≤ 3 ∧ zInv m' ∧ zFr W_178 m0 m') := by
  have hF0 : zFr W_178 m0 m0 := zFr.rfl
  generalize hQ : (fun (v : zV) (m' : zM) => ∃ r : Int, v = (0, r) ∧ (-1) ≤ r ∧ r ≤ 3 ∧ zInv m' ∧ zFr W_178 m0 m') = Q
  show zW E d 178 0 [(2, 69), (9, 0), (9, 0), (9, 0), (9, 0)] [] m0 Q
  refine zw_push zr_178_0 ?_
  refine zw_9 (L' := [(2, 69), (0, (-1)), (9, 0), (9, 0), (9, 0)]) zr_178_1 (Nat.le_of_ble_eq_true rfl) rfl ?_
  refine zw_push zr_178_2 ?_
  refine zw_9 (L' := [(2, 69), (0, (-1)), (0, 0), (9, 0), (9, 0)]) zr_178_3 (Nat.le_of_ble_eq_true rfl) rfl ?_
  refine zw_push zr_178_4 ?_
  refine zw_9 (L' := [(2, 69), (0, (-1)), (0, 0), (0, 0), (9, 0)]) zr_178_5 (Nat.le_of_ble_eq_true rfl) rfl ?_
  have lp6_5 : ∀ (nlp6_5 : Nat) (i1 i2 i3 : Int) (m4 : zM), zInv m4 → zFr W_178 m0 m4 → (-1) ≤ i1 → i1 ≤ 3 → (-2147483648) ≤ i2 → i2 ≤ 2147483647 → 0 ≤ i3 → i3 ≤ 4 → (4 - i3).toNat < nlp6_5 → zW E (d) 178 6 [(2, 69), (0, i1), (0, i2), (0, i3), (9, 0)] [] m4 Q := by
    intro nlp6_5
    induction nlp6_5 with
    | zero =>
      intros
      exact absurd (by assumption : _ < 0) (Nat.not_lt_zero _)
    | succ nlp6_5 ihlp6_5 =>
      intro i1 i2 i3 m4 hIm4 hFm4 li1 ui1 li2 ui2 li3 ui3 hmlp6_5
      refine zw_3 zr_178_6 rfl ?_
      refine zw_push zr_178_7 ?_
      refine zw_41_3 zr_178_8 ?_ ?_
      · intro h7
        refine zw_3 zr_178_48 rfl ?_
        refine zw_R zr_178_49 (by decide) zm_178 (v := (0, i1)) rfl ?_
        rw [← hQ]; exact ⟨_, rfl, by omega, by omega, hIm4, hFm4⟩
      · intro h8
        refine zw_7 zr_178_11 rfl ?_
        refine zw_3 zr_178_12 rfl ?_
        refine zw_C zr_178_13 (Or.inl rfl) zm_162 rfl rfl ⟨Nat.le_of_ble_eq_true rfl, Nat.le_of_ble_eq_true rfl, Nat.le_of_ble_eq_true rfl, rfl, by decide⟩ (by omega) (th_162 (d := d - 1) (by omega) hIm4 (a0 := i3)   (by omega)) ?_
        rintro _ m9 ⟨r10, rfl, hr10a, hr10b, hIm9, gm9⟩
        have hFm9 : zFr W_178 m0 m9 := hFm4.trans gm9 rfl
        show zW E (d) 178 16 [(2, 69), (0, i1), (0, i2), (0, i3), (9, 0)] [(0, r10)] m9 Q
        refine zw_40_1 zr_178_16 ?_ ?_
        · intro h11
          refine zw_15 (c := 1) (L' := [(2, 69), (0, i1), (0, i2), (0, (i3 + 1)), (9, 0)]) zr_178_42 rfl (by decide) (by omega) rfl ?_
          refine zw_42 zr_178_45 ?_
          exact zw_less (L := [(2, 69), (0, i1), (0, i2), (0, (i3 + 1)), (9, 0)]) ⟨Or.inr rfl, Or.inr rfl, Or.inr rfl, Or.inr rfl, Or.inl rfl, trivial⟩ (ihlp6_5 (i1) (i2) ((i3 + 1)) m9 hIm9 hFm9   (by omega) (by omega) (by omega) (by omega) (by omega) (by omega) (by omega))
        · intro h12
          refine zw_7 zr_178_19 rfl ?_
          refine zw_3 zr_178_20 rfl ?_
          refine zw_C zr_178_21 (Or.inl rfl) zm_176 rfl rfl ⟨Nat.le_of_ble_eq_true rfl, Nat.le_of_ble_eq_true rfl, Nat.le_of_ble_eq_true rfl, rfl, by decide⟩ (by omega) (th_176 (d := d - 1) (by omega) hIm9 (a0 := i3)   (by omega)) ?_
          rintro _ m13 ⟨r14, rfl, hr14a, hr14b, hIm13, gm13⟩
          have hFm13 : zFr W_178 m0 m13 := hFm9.trans gm13 rfl
          show zW E (d) 178 24 [(2, 69), (0, i1), (0, i2), (0, i3), (9, 0)] [(0, r14)] m13 Q
          refine zw_10 (L' := [(2, 69), (0, i1), (0, i2), (0, i3), (0, r14)]) zr_178_24 (Nat.le_of_ble_eq_true rfl) rfl ?_
          refine zw_3 zr_178_26 rfl ?_
          refine zw_push zr_178_27 ?_
          refine zw_41_1 zr_178_28 ?_ ?_
          · intro h15
            refine zw_3 zr_178_37 rfl ?_
            refine zw_9 (L' := [(2, 69), (0, i3), (0, i2), (0, i3), (0, r14)]) zr_178_38 (Nat.le_of_ble_eq_true rfl) rfl ?_
            refine zw_4 zr_178_39 rfl ?_
            refine zw_9 (L' := [(2, 69), (0, i3), (0, r14), (0, i3), (0, r14)]) zr_178_41 (Nat.le_of_ble_eq_true rfl) rfl ?_
            refine zw_15 (c := 1) (L' := [(2, 69), (0, i3), (0, r14), (0, (i3 + 1)), (0, r14)]) zr_178_42 rfl (by decide) (by omega) rfl ?_
            refine zw_42 zr_178_45 ?_
            exact zw_less (L := [(2, 69), (0, i3), (0, r14), (0, (i3 + 1)), (9, 0)]) ⟨Or.inr rfl, Or.inr rfl, Or.inr rfl, Or.inr rfl, Or.inl rfl, trivial⟩ (ihlp6_5 (i3) (r14) ((i3 + 1)) m13 hIm13 hFm13   (by omega) (by omega) (by omega) (by omega) (by omega) (by omega) (by omega))
          · intro h16
            refine zw_4 zr_178_31 rfl ?_
            refine zw_3 zr_178_33 rfl ?_
            refine zw_41_5 zr_178_34 ?_ ?_
            · intro h17
              refine zw_15 (c := 1) (L' := [(2, 69), (0, i1), (0, i2), (0, (i3 + 1)), (0, r14)]) zr_178_42 rfl (by decide) (by omega) rfl ?_
              refine zw_42 zr_178_45 ?_
              exact zw_less (L := [(2, 69), (0, i1), (0, i2), (0, (i3 + 1)), (9, 0)]) ⟨Or.inr rfl, Or.inr rfl, Or.inr rfl, Or.inr rfl, Or.inl rfl, trivial⟩ (ihlp6_5 (i1) (i2) ((i3 + 1)) m13 hIm13 hFm13   (by omega) (by omega) (by omega) (by omega) (by omega) (by omega) (by omega))
            · intro h18
              refine zw_3 zr_178_37 rfl ?_
              refine zw_9 (L' := [(2, 69), (0, i3), (0, i2), (0, i3), (0, r14)]) zr_178_38 (Nat.le_of_ble_eq_true rfl) rfl ?_
              refine zw_4 zr_178_39 rfl ?_
              refine zw_9 (L' := [(2, 69), (0, i3), (0, r14), (0, i3), (0, r14)]) zr_178_41 (Nat.le_of_ble_eq_true rfl) rfl ?_
              refine zw_15 (c := 1) (L' := [(2, 69), (0, i3), (0, r14), (0, (i3 + 1)), (0, r14)]) zr_178_42 rfl (by decide) (by omega) rfl ?_
              refine zw_42 zr_178_45 ?_
              exact zw_less (L := [(2, 69), (0, i3), (0, r14), (0, (i3 + 1)), (9, 0)]) ⟨Or.inr rfl, Or.inr rfl, Or.inr rfl, Or.inr rfl, Or.inl rfl, trivial⟩ (ihlp6_5 (i3) (r14) ((i3 + 1)) m13 hIm13 hFm13   (by omega) (by omega) (by omega) (by omega) (by omega) (by omega) (by omega))
  exact lp6_5 _ ((-1)) (0) (0) m0 hI0 hF0   (by omega) (by omega) (by omega) (by omega) (by omega) (by omega) (Nat.lt_succ_self _)

abbrev W_115 : List (Nat × Nat) := [(12, 1000)]
set_option maxHeartbeats 8000000 in
theorem th_115 {E : zE} {d : Nat} {m0 : zM} {a0 : Int} {a1 : Int} (hd : 2 ≤ d) (hI0 : zInv m0) (ha0 : (-2147483648) ≤ a0 ∧ a0 ≤ 2147483647) (ha1 : (-2147483648) ≤ a1 ∧ a1 ≤ 2147483647) : zC E d 115 [(2, 0), (0, a0), (0, a1)] m0 (fun v m' => ∃ r : Int, v = (0, r) ∧ (-100000) ≤ r ∧ r ≤ 500 ∧ zInv m' ∧ zFr W_115 m0 m') := by
  have hF0 : zFr W_115 m0 m0 := zFr.rfl
  generalize hQ : (fun (v : zV) (m' : zM) => ∃ r : Int, v = (0, r) ∧ (-100000) ≤ r ∧ r ≤ 500 ∧ zInv m' ∧ zFr W_115 m0 m') = Q
  show zW E d 115 0 [(2, 0), (0, a0), (0, a1), (9, 0)] [] m0 Q
  refine zw_3 zr_115_0 rfl ?_
  refine zw_push zr_115_1 ?_
  refine zw_push zr_115_2 ?_
  refine zw_C zr_115_5 (Or.inr rfl) zm_100 rfl rfl ⟨Nat.le_of_ble_eq_true rfl, Nat.le_of_ble_eq_true rfl, Nat.le_of_ble_eq_true rfl, rfl, by decide⟩ (by omega) (P := (fun v m' => zW E (d) 115 8 [(2, 0), (0, a0), (0, a1), (9, 0)] (if v.1 = 9 then [] else v :: []) m' Q)) ?_ (fun _ _ h => h)
  generalize hQ1 : (fun v m' => zW E (d) 115 8 [(2, 0), (0, a0), (0, a1), (9, 0)] (if v.1 = 9 then [] else v :: []) m' Q) = Q1
  show zW E (d - 1) 100 0 [(0, a0), (0, 0), (0, 159)] [] m0 Q1
  refine zw_3 zr_100_0 rfl ?_
  refine zw_3 zr_100_1 rfl ?_
  refine zw_41_0 zr_100_2 ?_ ?_
  · intro h1
    refine zw_push zr_100_14 ?_
    refine zw_R zr_100_15 (by decide) zm_100 (v := (0, 0)) (zRetB (by omega)) ?_
    rw [← hQ1]
    show zW E (d) 115 8 [(2, 0), (0, a0), (0, a1), (9, 0)] [(0, 0)] m0 Q
    refine zw_40_1 zr_115_8 ?_ ?_
    · intro h2
      refine zw_push zr_115_24 ?_
      refine zw_R zr_115_26 (by decide) zm_115 (v := (0, (-100000))) rfl ?_
      rw [← hQ]; exact ⟨_, rfl, by omega, by omega, hI0, hF0⟩
    · intro h3; omega
  · intro h4
    refine zw_3 zr_100_5 rfl ?_
    refine zw_3 zr_100_6 rfl ?_
    refine zw_41_2 zr_100_7 ?_ ?_
    · intro h5
      refine zw_push zr_100_14 ?_
      refine zw_R zr_100_15 (by decide) zm_100 (v := (0, 0)) (zRetB (by omega)) ?_
      rw [← hQ1]
      show zW E (d) 115 8 [(2, 0), (0, a0), (0, a1), (9, 0)] [(0, 0)] m0 Q
      refine zw_40_1 zr_115_8 ?_ ?_
      · intro h6
        refine zw_push zr_115_24 ?_
        refine zw_R zr_115_26 (by decide) zm_115 (v := (0, (-100000))) rfl ?_
        rw [← hQ]; exact ⟨_, rfl, by omega, by omega, hI0, hF0⟩
      · intro h7; omega
    · intro h8
      refine zw_push zr_100_10 ?_
      refine zw_42 zr_100_11 ?_
      refine zw_R zr_100_15 (by decide) zm_100 (v := (0, 1)) (zRetB (by omega)) ?_
      rw [← hQ1]
      show zW E (d) 115 8 [(2, 0), (0, a0), (0, a1), (9, 0)] [(0, 1)] m0 Q
      refine zw_40_1 zr_115_8 ?_ ?_
      · intro h9; omega
      · intro h10
        refine zw_3 zr_115_11 rfl ?_
        refine zw_push zr_115_12 ?_
        refine zw_push zr_115_15 ?_
        refine zw_C zr_115_18 (Or.inr rfl) zm_100 rfl rfl ⟨Nat.le_of_ble_eq_true rfl, Nat.le_of_ble_eq_true rfl, Nat.le_of_ble_eq_true rfl, rfl, by decide⟩ (by omega) (P := (fun v m' => zW E (d) 115 21 [(2, 0), (0, a0), (0, a1), (9, 0)] (if v.1 = 9 then [] else v :: []) m' Q)) ?_ (fun _ _ h => h)
        generalize hQ1 : (fun v m' => zW E (d) 115 21 [(2, 0), (0, a0), (0, a1), (9, 0)] (if v.1 = 9 then [] else v :: []) m' Q) = Q1
        show zW E (d - 1) 100 0 [(0, a1), (0, (-500)), (0, 500)] [] m0 Q1
        refine zw_3 zr_100_0 rfl ?_
        refine zw_3 zr_100_1 rfl ?_
        refine zw_41_0 zr_100_2 ?_ ?_
        · intro h11
          refine zw_push zr_100_14 ?_
          refine zw_R zr_100_15 (by decide) zm_100 (v := (0, 0)) (zRetB (by omega)) ?_
          rw [← hQ1]
          show zW E (d) 115 21 [(2, 0), (0, a0), (0, a1), (9, 0)] [(0, 0)] m0 Q
          refine zw_40_4 zr_115_21 ?_ ?_
          · intro h12; omega
          · intro h13
            refine zw_push zr_115_24 ?_
            refine zw_R zr_115_26 (by decide) zm_115 (v := (0, (-100000))) rfl ?_
            rw [← hQ]; exact ⟨_, rfl, by omega, by omega, hI0, hF0⟩
        · intro h14
          refine zw_3 zr_100_5 rfl ?_
          refine zw_3 zr_100_6 rfl ?_
          refine zw_41_2 zr_100_7 ?_ ?_
          · intro h15
            refine zw_push zr_100_14 ?_
            refine zw_R zr_100_15 (by decide) zm_100 (v := (0, 0)) (zRetB (by omega)) ?_
            rw [← hQ1]
            show zW E (d) 115 21 [(2, 0), (0, a0), (0, a1), (9, 0)] [(0, 0)] m0 Q
            refine zw_40_4 zr_115_21 ?_ ?_
            · intro h16; omega
            · intro h17
              refine zw_push zr_115_24 ?_
              refine zw_R zr_115_26 (by decide) zm_115 (v := (0, (-100000))) rfl ?_
              rw [← hQ]; exact ⟨_, rfl, by omega, by omega, hI0, hF0⟩
          · intro h18
            refine zw_push zr_100_10 ?_
            refine zw_42 zr_100_11 ?_
            refine zw_R zr_100_15 (by decide) zm_100 (v := (0, 1)) (zRetB (by omega)) ?_
            rw [← hQ1]
            show zW E (d) 115 21 [(2, 0), (0, a0), (0, a1), (9, 0)] [(0, 1)] m0 Q
            refine zw_40_4 zr_115_21 ?_ ?_
            · intro h19
              refine zw_7 zr_115_27 rfl ?_
              refine zw_46r (s := 1) zr_115_28 rfl rfl rfl rfl ?_
              refine zw_46r (s := 12) zr_115_31 rfl rfl rfl rfl ?_
              refine zw_3 zr_115_34 rfl ?_
              refine zw_48 (c := 12) (len := 160) zr_115_35 rfl rfl (by omega) (by omega) ?_
              intro x20 ex20
              have bx20 := ib_12 hI0 (k := (a0).toNat) (by omega)
              rw [← ex20] at bx20
              clear ex20
              refine zw_9 (L' := [(2, 0), (0, a0), (0, a1), (0, x20)]) zr_115_36 (Nat.le_of_ble_eq_true rfl) rfl ?_
              refine zw_7 zr_115_37 rfl ?_
              refine zw_46r (s := 1) zr_115_38 rfl rfl rfl rfl ?_
              refine zw_46r (s := 12) zr_115_41 rfl rfl rfl rfl ?_
              refine zw_3 zr_115_44 rfl ?_
              refine zw_3 zr_115_45 rfl ?_
              refine zw_49 (c := 12) (len := 160) zr_115_46 rfl rfl (by omega) (by omega) ?_
              intro m21 em21
              have hIm21 : zInv m21 := by rw [em21]; exact iu_12 hI0 (by omega)
              have hFm21 : zFr W_115 m0 m21 := by rw [em21]; exact hF0.any rfl
              clear em21
              refine zw_3 zr_115_47 rfl ?_
              refine zw_R zr_115_48 (by decide) zm_115 (v := (0, x20)) rfl ?_
              rw [← hQ]; exact ⟨_, rfl, by omega, by omega, hIm21, hFm21⟩
            · intro h22; omega

abbrev W_179 : List (Nat × Nat) := [(70, 1000)]
set_option maxHeartbeats 8000000 in
theorem th_179 {E : zE} {d : Nat} {m0 : zM} {a0 : Int} {a1 : Int} (hd : 2 ≤ d) (hI0 : zInv m0) (ha0 : (-2147483648) ≤ a0 ∧ a0 ≤ 2147483647) (ha1 : (-2147483648) ≤ a1 ∧ a1 ≤ 2147483647) : zC E d 179 [(2, 69), (0, a0), (0, a1)] m0 (fun v m' => ∃ r : Int, v = (0, r) ∧ (-100000) ≤ r ∧ r ≤ 500 ∧ zInv m' ∧ zFr W_179 m0 m') := by
  have hF0 : zFr W_179 m0 m0 := zFr.rfl
  generalize hQ : (fun (v : zV) (m' : zM) => ∃ r : Int, v = (0, r) ∧ (-100000) ≤ r ∧ r ≤ 500 ∧ zInv m' ∧ zFr W_179 m0 m') = Q
  show zW E d 179 0 [(2, 69), (0, a0), (0, a1), (9, 0)] [] m0 Q
  refine zw_3 zr_179_0 rfl ?_
  refine zw_36 zr_179_1 ?_
  refine zw_push zr_179_2 ?_
  refine zw_push zr_179_3 ?_
  refine zw_C zr_179_6 (Or.inr rfl) zm_140 rfl rfl ⟨Nat.le_of_ble_eq_true rfl, Nat.le_of_ble_eq_true rfl, Nat.le_of_ble_eq_true rfl, rfl, by decide⟩ (by omega) (P := (fun v m' => zW E (d) 179 9 [(2, 69), (0, a0), (0, a1), (9, 0)] (if v.1 = 9 then [] else v :: []) m' Q)) ?_ (fun _ _ h => h)
  generalize hQ1 : (fun v m' => zW E (d) 179 9 [(2, 69), (0, a0), (0, a1), (9, 0)] (if v.1 = 9 then [] else v :: []) m' Q) = Q1
  show zW E (d - 1) 140 0 [(1, a0), (9, 0), (1, 0), (9, 0), (1, 159), (9, 0)] [] m0 Q1
  refine zw_5 zr_140_0 rfl ?_
  refine zw_5 zr_140_1 rfl ?_
  refine zw_39_0 zr_140_2 zr_140_3 ?_ ?_
  · intro h1
    refine zw_push zr_140_17 ?_
    refine zw_R zr_140_18 (by decide) zm_140 (v := (0, 0)) (zRetB (by omega)) ?_
    rw [← hQ1]
    show zW E (d) 179 9 [(2, 69), (0, a0), (0, a1), (9, 0)] [(0, 0)] m0 Q
    refine zw_40_1 zr_179_9 ?_ ?_
    · intro h2
      refine zw_push zr_179_26 ?_
      refine zw_R zr_179_28 (by decide) zm_179 (v := (0, (-100000))) rfl ?_
      rw [← hQ]; exact ⟨_, rfl, by omega, by omega, hI0, hF0⟩
    · intro h3; omega
  · intro h4
    refine zw_5 zr_140_6 rfl ?_
    refine zw_6 zr_140_7 rfl ?_
    refine zw_39_2 zr_140_9 zr_140_10 ?_ ?_
    · intro h5
      refine zw_push zr_140_17 ?_
      refine zw_R zr_140_18 (by decide) zm_140 (v := (0, 0)) (zRetB (by omega)) ?_
      rw [← hQ1]
      show zW E (d) 179 9 [(2, 69), (0, a0), (0, a1), (9, 0)] [(0, 0)] m0 Q
      refine zw_40_1 zr_179_9 ?_ ?_
      · intro h6
        refine zw_push zr_179_26 ?_
        refine zw_R zr_179_28 (by decide) zm_179 (v := (0, (-100000))) rfl ?_
        rw [← hQ]; exact ⟨_, rfl, by omega, by omega, hI0, hF0⟩
      · intro h7; omega
    · intro h8
      refine zw_push zr_140_13 ?_
      refine zw_42 zr_140_14 ?_
      refine zw_R zr_140_18 (by decide) zm_140 (v := (0, 1)) (zRetB (by omega)) ?_
      rw [← hQ1]
      show zW E (d) 179 9 [(2, 69), (0, a0), (0, a1), (9, 0)] [(0, 1)] m0 Q
      refine zw_40_1 zr_179_9 ?_ ?_
      · intro h9; omega
      · intro h10
        refine zw_3 zr_179_12 rfl ?_
        refine zw_36 zr_179_13 ?_
        refine zw_push zr_179_14 ?_
        refine zw_push zr_179_17 ?_
        refine zw_C zr_179_20 (Or.inr rfl) zm_140 rfl rfl ⟨Nat.le_of_ble_eq_true rfl, Nat.le_of_ble_eq_true rfl, Nat.le_of_ble_eq_true rfl, rfl, by decide⟩ (by omega) (P := (fun v m' => zW E (d) 179 23 [(2, 69), (0, a0), (0, a1), (9, 0)] (if v.1 = 9 then [] else v :: []) m' Q)) ?_ (fun _ _ h => h)
        generalize hQ1 : (fun v m' => zW E (d) 179 23 [(2, 69), (0, a0), (0, a1), (9, 0)] (if v.1 = 9 then [] else v :: []) m' Q) = Q1
        show zW E (d - 1) 140 0 [(1, a1), (9, 0), (1, (-500)), (9, 0), (1, 500), (9, 0)] [] m0 Q1
        refine zw_5 zr_140_0 rfl ?_
        refine zw_5 zr_140_1 rfl ?_
        refine zw_39_0 zr_140_2 zr_140_3 ?_ ?_
        · intro h11
          refine zw_push zr_140_17 ?_
          refine zw_R zr_140_18 (by decide) zm_140 (v := (0, 0)) (zRetB (by omega)) ?_
          rw [← hQ1]
          show zW E (d) 179 23 [(2, 69), (0, a0), (0, a1), (9, 0)] [(0, 0)] m0 Q
          refine zw_40_4 zr_179_23 ?_ ?_
          · intro h12; omega
          · intro h13
            refine zw_push zr_179_26 ?_
            refine zw_R zr_179_28 (by decide) zm_179 (v := (0, (-100000))) rfl ?_
            rw [← hQ]; exact ⟨_, rfl, by omega, by omega, hI0, hF0⟩
        · intro h14
          refine zw_5 zr_140_6 rfl ?_
          refine zw_6 zr_140_7 rfl ?_
          refine zw_39_2 zr_140_9 zr_140_10 ?_ ?_
          · intro h15
            refine zw_push zr_140_17 ?_
            refine zw_R zr_140_18 (by decide) zm_140 (v := (0, 0)) (zRetB (by omega)) ?_
            rw [← hQ1]
            show zW E (d) 179 23 [(2, 69), (0, a0), (0, a1), (9, 0)] [(0, 0)] m0 Q
            refine zw_40_4 zr_179_23 ?_ ?_
            · intro h16; omega
            · intro h17
              refine zw_push zr_179_26 ?_
              refine zw_R zr_179_28 (by decide) zm_179 (v := (0, (-100000))) rfl ?_
              rw [← hQ]; exact ⟨_, rfl, by omega, by omega, hI0, hF0⟩
          · intro h18
            refine zw_push zr_140_13 ?_
            refine zw_42 zr_140_14 ?_
            refine zw_R zr_140_18 (by decide) zm_140 (v := (0, 1)) (zRetB (by omega)) ?_
            rw [← hQ1]
            show zW E (d) 179 23 [(2, 69), (0, a0), (0, a1), (9, 0)] [(0, 1)] m0 Q
            refine zw_40_4 zr_179_23 ?_ ?_
            · intro h19
              refine zw_7 zr_179_29 rfl ?_
              refine zw_46r (s := 70) zr_179_30 rfl rfl rfl rfl ?_
              refine zw_push zr_179_33 ?_
              refine zw_3 zr_179_36 rfl ?_
              refine zw_16 zr_179_37 (by omega) ?_
              refine zw_48 (c := 70) (len := 826) zr_179_38 rfl rfl (by omega) (by omega) ?_
              intro x20 ex20
              have bx20 := ib_70_shape hI0 (k := ((658 + a0)).toNat) (by omega)
              rw [← ex20] at bx20
              clear ex20
              refine zw_9 (L' := [(2, 69), (0, a0), (0, a1), (0, x20)]) zr_179_39 (Nat.le_of_ble_eq_true rfl) rfl ?_
              refine zw_7 zr_179_40 rfl ?_
              refine zw_46r (s := 70) zr_179_41 rfl rfl rfl rfl ?_
              refine zw_push zr_179_44 ?_
              refine zw_3 zr_179_47 rfl ?_
              refine zw_16 zr_179_48 (by omega) ?_
              refine zw_3 zr_179_49 rfl ?_
              refine zw_49 (c := 70) (len := 826) zr_179_50 rfl rfl (by omega) (by omega) ?_
              intro m21 em21
              have hIm21 : zInv m21 := by rw [em21]; exact iu_70_shape hI0 (by omega) (by omega)
              have hFm21 : zFr W_179 m0 m21 := by rw [em21]; exact hF0.any rfl
              clear em21
              refine zw_3 zr_179_51 rfl ?_
              refine zw_R zr_179_52 (by decide) zm_179 (v := (0, x20)) rfl ?_
              rw [← hQ]; exact ⟨_, rfl, by omega, by omega, hIm21, hFm21⟩
            · intro h22; omega

abbrev W_116 : List (Nat × Nat) := [(1, 4), (1, 5)]
set_option maxHeartbeats 8000000 in
theorem th_116 {E : zE} {d : Nat} {m0 : zM} {a0 : Int} {a1 : Int} (hd : 2 ≤ d) (hI0 : zInv m0) (ha0 : (-2147483648) ≤ a0 ∧ a0 ≤ 2147483647) (ha1 : (-2147483648) ≤ a1 ∧ a1 ≤ 2147483647) : zC E d 116 [(2, 0), (0, a0), (0, a1)] m0 (fun v m' => ∃ r : Int, v = (0, r) ∧ (-2) ≤ r ∧ r ≤ 1 ∧ zInv m' ∧ zFr W_116 m0 m' ∧ ((r = 1 ∧ 1 ≤ a0 ∧ a0 ≤ 1000 ∧ 0 ≤ a1 ∧ a1 ≤ 500) ∨ (r = -2 ∧ (a0 < 1 ∨ 1000 < a0 ∨ a1 < 0 ∨ 500 < a1)))) := by
  have hF0 : zFr W_116 m0 m0 := zFr.rfl
  generalize hQ : (fun (v : zV) (m' : zM) => ∃ r : Int, v = (0, r) ∧ (-2) ≤ r ∧ r ≤ 1 ∧ zInv m' ∧ zFr W_116 m0 m' ∧ ((r = 1 ∧ 1 ≤ a0 ∧ a0 ≤ 1000 ∧ 0 ≤ a1 ∧ a1 ≤ 500) ∨ (r = -2 ∧ (a0 < 1 ∨ 1000 < a0 ∨ a1 < 0 ∨ 500 < a1)))) = Q
  show zW E d 116 0 [(2, 0), (0, a0), (0, a1)] [] m0 Q
  refine zw_3 zr_116_0 rfl ?_
  refine zw_push zr_116_1 ?_
  refine zw_push zr_116_2 ?_
  refine zw_C zr_116_5 (Or.inr rfl) zm_100 rfl rfl ⟨Nat.le_of_ble_eq_true rfl, Nat.le_of_ble_eq_true rfl, Nat.le_of_ble_eq_true rfl, rfl, by decide⟩ (by omega) (P := (fun v m' => zW E (d) 116 8 [(2, 0), (0, a0), (0, a1)] (if v.1 = 9 then [] else v :: []) m' Q)) ?_ (fun _ _ h => h)
  generalize hQ1 : (fun v m' => zW E (d) 116 8 [(2, 0), (0, a0), (0, a1)] (if v.1 = 9 then [] else v :: []) m' Q) = Q1
  show zW E (d - 1) 100 0 [(0, a0), (0, 1), (0, 1000)] [] m0 Q1
  refine zw_3 zr_100_0 rfl ?_
  refine zw_3 zr_100_1 rfl ?_
  refine zw_41_0 zr_100_2 ?_ ?_
  · intro h1
    refine zw_push zr_100_14 ?_
    refine zw_R zr_100_15 (by decide) zm_100 (v := (0, 0)) (zRetB (by omega)) ?_
    rw [← hQ1]
    show zW E (d) 116 8 [(2, 0), (0, a0), (0, a1)] [(0, 0)] m0 Q
    refine zw_40_1 zr_116_8 ?_ ?_
    · intro h2
      refine zw_push zr_116_22 ?_
      refine zw_R zr_116_24 (by decide) zm_116 (v := (0, (-2))) rfl ?_
      rw [← hQ]; exact ⟨_, rfl, by omega, by omega, hI0, hF0, by omega⟩
    · intro h3; omega
  · intro h4
    refine zw_3 zr_100_5 rfl ?_
    refine zw_3 zr_100_6 rfl ?_
    refine zw_41_2 zr_100_7 ?_ ?_
    · intro h5
      refine zw_push zr_100_14 ?_
      refine zw_R zr_100_15 (by decide) zm_100 (v := (0, 0)) (zRetB (by omega)) ?_
      rw [← hQ1]
      show zW E (d) 116 8 [(2, 0), (0, a0), (0, a1)] [(0, 0)] m0 Q
      refine zw_40_1 zr_116_8 ?_ ?_
      · intro h6
        refine zw_push zr_116_22 ?_
        refine zw_R zr_116_24 (by decide) zm_116 (v := (0, (-2))) rfl ?_
        rw [← hQ]; exact ⟨_, rfl, by omega, by omega, hI0, hF0, by omega⟩
      · intro h7; omega
    · intro h8
      refine zw_push zr_100_10 ?_
      refine zw_42 zr_100_11 ?_
      refine zw_R zr_100_15 (by decide) zm_100 (v := (0, 1)) (zRetB (by omega)) ?_
      rw [← hQ1]
      show zW E (d) 116 8 [(2, 0), (0, a0), (0, a1)] [(0, 1)] m0 Q
      refine zw_40_1 zr_116_8 ?_ ?_
      · intro h9; omega
      · intro h10
        refine zw_3 zr_116_11 rfl ?_
        refine zw_push zr_116_12 ?_
        refine zw_push zr_116_13 ?_
        refine zw_C zr_116_16 (Or.inr rfl) zm_100 rfl rfl ⟨Nat.le_of_ble_eq_true rfl, Nat.le_of_ble_eq_true rfl, Nat.le_of_ble_eq_true rfl, rfl, by decide⟩ (by omega) (P := (fun v m' => zW E (d) 116 19 [(2, 0), (0, a0), (0, a1)] (if v.1 = 9 then [] else v :: []) m' Q)) ?_ (fun _ _ h => h)
        generalize hQ1 : (fun v m' => zW E (d) 116 19 [(2, 0), (0, a0), (0, a1)] (if v.1 = 9 then [] else v :: []) m' Q) = Q1
        show zW E (d - 1) 100 0 [(0, a1), (0, 0), (0, 500)] [] m0 Q1
        refine zw_3 zr_100_0 rfl ?_
        refine zw_3 zr_100_1 rfl ?_
        refine zw_41_0 zr_100_2 ?_ ?_
        · intro h11
          refine zw_push zr_100_14 ?_
          refine zw_R zr_100_15 (by decide) zm_100 (v := (0, 0)) (zRetB (by omega)) ?_
          rw [← hQ1]
          show zW E (d) 116 19 [(2, 0), (0, a0), (0, a1)] [(0, 0)] m0 Q
          refine zw_40_4 zr_116_19 ?_ ?_
          · intro h12; omega
          · intro h13
            refine zw_push zr_116_22 ?_
            refine zw_R zr_116_24 (by decide) zm_116 (v := (0, (-2))) rfl ?_
            rw [← hQ]; exact ⟨_, rfl, by omega, by omega, hI0, hF0, by omega⟩
        · intro h14
          refine zw_3 zr_100_5 rfl ?_
          refine zw_3 zr_100_6 rfl ?_
          refine zw_41_2 zr_100_7 ?_ ?_
          · intro h15
            refine zw_push zr_100_14 ?_
            refine zw_R zr_100_15 (by decide) zm_100 (v := (0, 0)) (zRetB (by omega)) ?_
            rw [← hQ1]
            show zW E (d) 116 19 [(2, 0), (0, a0), (0, a1)] [(0, 0)] m0 Q
            refine zw_40_4 zr_116_19 ?_ ?_
            · intro h16; omega
            · intro h17
              refine zw_push zr_116_22 ?_
              refine zw_R zr_116_24 (by decide) zm_116 (v := (0, (-2))) rfl ?_
              rw [← hQ]; exact ⟨_, rfl, by omega, by omega, hI0, hF0, by omega⟩
          · intro h18
            refine zw_push zr_100_10 ?_
            refine zw_42 zr_100_11 ?_
            refine zw_R zr_100_15 (by decide) zm_100 (v := (0, 1)) (zRetB (by omega)) ?_
            rw [← hQ1]
            show zW E (d) 116 19 [(2, 0), (0, a0), (0, a1)] [(0, 1)] m0 Q
            refine zw_40_4 zr_116_19 ?_ ?_
            · intro h19
              refine zw_7 zr_116_25 rfl ?_
              refine zw_46r (s := 1) zr_116_26 rfl rfl rfl rfl ?_
              refine zw_3 zr_116_29 rfl ?_
              refine zw_47 (c := 1) zr_116_30 rfl ⟨rfl, by decide, rfl⟩ ?_
              intro m20 em20
              have hIm20 : zInv m20 := by rw [em20]; exact hI0.bd (r := 1) (k := 4) (lo := 1) (hi := 1000) rfl (by omega) (by decide) (by decide) (by decide)
              have hFm20 : zFr W_116 m0 m20 := by rw [em20]; exact hF0.up rfl
              have km20_1_4 : m20 1 4 = a0 := by rw [em20]; exact zUp_eq _ _ _ _
              clear em20
              refine zw_7 zr_116_33 rfl ?_
              refine zw_46r (s := 1) zr_116_34 rfl rfl rfl rfl ?_
              refine zw_3 zr_116_37 rfl ?_
              refine zw_47 (c := 1) zr_116_38 rfl ⟨rfl, by decide, rfl⟩ ?_
              intro m21 em21
              have hIm21 : zInv m21 := by rw [em21]; exact hIm20.bd (r := 1) (k := 5) (lo := 0) (hi := 500) rfl (by omega) (by decide) (by decide) (by decide)
              have hFm21 : zFr W_116 m0 m21 := by rw [em21]; exact hFm20.up rfl
              have km21_1_4 : m21 1 4 = a0 := by rw [em21, zUp_ne (by omega)]; exact km20_1_4
              have km21_1_5 : m21 1 5 = a1 := by rw [em21]; exact zUp_eq _ _ _ _
              clear em21
              refine zw_push zr_116_41 ?_
              refine zw_R zr_116_42 (by decide) zm_116 (v := (0, 1)) rfl ?_
              rw [← hQ]; exact ⟨_, rfl, by omega, by omega, hIm21, hFm21, by omega⟩
            · intro h22; omega

abbrev W_180 : List (Nat × Nat) := [(70, 1000)]
set_option maxHeartbeats 8000000 in
theorem th_180 {E : zE} {d : Nat} {m0 : zM} {a0 : Int} {a1 : Int} (hd : 2 ≤ d) (hI0 : zInv m0) (ha0 : (-2147483648) ≤ a0 ∧ a0 ≤ 2147483647) (ha1 : (-2147483648) ≤ a1 ∧ a1 ≤ 2147483647) : zC E d 180 [(2, 69), (0, a0), (0, a1)] m0 (fun v m' => ∃ r : Int, v = (0, r) ∧ (-2) ≤ r ∧ r ≤ 1 ∧ zInv m' ∧ zFr W_180 m0 m' ∧ ((r = 1 ∧ 1 ≤ a0 ∧ a0 ≤ 1000 ∧ 0 ≤ a1 ∧ a1 ≤ 500) ∨ (r = -2 ∧ (a0 < 1 ∨ 1000 < a0 ∨ a1 < 0 ∨ 500 < a1)))) := by
  have hF0 : zFr W_180 m0 m0 := zFr.rfl
  generalize hQ : (fun (v : zV) (m' : zM) => ∃ r : Int, v = (0, r) ∧ (-2) ≤ r ∧ r ≤ 1 ∧ zInv m' ∧ zFr W_180 m0 m' ∧ ((r = 1 ∧ 1 ≤ a0 ∧ a0 ≤ 1000 ∧ 0 ≤ a1 ∧ a1 ≤ 500) ∨ (r = -2 ∧ (a0 < 1 ∨ 1000 < a0 ∨ a1 < 0 ∨ 500 < a1)))) = Q
  show zW E d 180 0 [(2, 69), (0, a0), (0, a1)] [] m0 Q
  refine zw_3 zr_180_0 rfl ?_
  refine zw_36 zr_180_1 ?_
  refine zw_push zr_180_2 ?_
  refine zw_push zr_180_3 ?_
  refine zw_C zr_180_6 (Or.inr rfl) zm_140 rfl rfl ⟨Nat.le_of_ble_eq_true rfl, Nat.le_of_ble_eq_true rfl, Nat.le_of_ble_eq_true rfl, rfl, by decide⟩ (by omega) (P := (fun v m' => zW E (d) 180 9 [(2, 69), (0, a0), (0, a1)] (if v.1 = 9 then [] else v :: []) m' Q)) ?_ (fun _ _ h => h)
  generalize hQ1 : (fun v m' => zW E (d) 180 9 [(2, 69), (0, a0), (0, a1)] (if v.1 = 9 then [] else v :: []) m' Q) = Q1
  show zW E (d - 1) 140 0 [(1, a0), (9, 0), (1, 1), (9, 0), (1, 1000), (9, 0)] [] m0 Q1
  refine zw_5 zr_140_0 rfl ?_
  refine zw_5 zr_140_1 rfl ?_
  refine zw_39_0 zr_140_2 zr_140_3 ?_ ?_
  · intro h1
    refine zw_push zr_140_17 ?_
    refine zw_R zr_140_18 (by decide) zm_140 (v := (0, 0)) (zRetB (by omega)) ?_
    rw [← hQ1]
    show zW E (d) 180 9 [(2, 69), (0, a0), (0, a1)] [(0, 0)] m0 Q
    refine zw_40_1 zr_180_9 ?_ ?_
    · intro h2
      refine zw_push zr_180_24 ?_
      refine zw_R zr_180_26 (by decide) zm_180 (v := (0, (-2))) rfl ?_
      rw [← hQ]; exact ⟨_, rfl, by omega, by omega, hI0, hF0, by omega⟩
    · intro h3; omega
  · intro h4
    refine zw_5 zr_140_6 rfl ?_
    refine zw_6 zr_140_7 rfl ?_
    refine zw_39_2 zr_140_9 zr_140_10 ?_ ?_
    · intro h5
      refine zw_push zr_140_17 ?_
      refine zw_R zr_140_18 (by decide) zm_140 (v := (0, 0)) (zRetB (by omega)) ?_
      rw [← hQ1]
      show zW E (d) 180 9 [(2, 69), (0, a0), (0, a1)] [(0, 0)] m0 Q
      refine zw_40_1 zr_180_9 ?_ ?_
      · intro h6
        refine zw_push zr_180_24 ?_
        refine zw_R zr_180_26 (by decide) zm_180 (v := (0, (-2))) rfl ?_
        rw [← hQ]; exact ⟨_, rfl, by omega, by omega, hI0, hF0, by omega⟩
      · intro h7; omega
    · intro h8
      refine zw_push zr_140_13 ?_
      refine zw_42 zr_140_14 ?_
      refine zw_R zr_140_18 (by decide) zm_140 (v := (0, 1)) (zRetB (by omega)) ?_
      rw [← hQ1]
      show zW E (d) 180 9 [(2, 69), (0, a0), (0, a1)] [(0, 1)] m0 Q
      refine zw_40_1 zr_180_9 ?_ ?_
      · intro h9; omega
      · intro h10
        refine zw_3 zr_180_12 rfl ?_
        refine zw_36 zr_180_13 ?_
        refine zw_push zr_180_14 ?_
        refine zw_push zr_180_15 ?_
        refine zw_C zr_180_18 (Or.inr rfl) zm_140 rfl rfl ⟨Nat.le_of_ble_eq_true rfl, Nat.le_of_ble_eq_true rfl, Nat.le_of_ble_eq_true rfl, rfl, by decide⟩ (by omega) (P := (fun v m' => zW E (d) 180 21 [(2, 69), (0, a0), (0, a1)] (if v.1 = 9 then [] else v :: []) m' Q)) ?_ (fun _ _ h => h)
        generalize hQ1 : (fun v m' => zW E (d) 180 21 [(2, 69), (0, a0), (0, a1)] (if v.1 = 9 then [] else v :: []) m' Q) = Q1
        show zW E (d - 1) 140 0 [(1, a1), (9, 0), (1, 0), (9, 0), (1, 500), (9, 0)] [] m0 Q1
        refine zw_5 zr_140_0 rfl ?_
        refine zw_5 zr_140_1 rfl ?_
        refine zw_39_0 zr_140_2 zr_140_3 ?_ ?_
        · intro h11
          refine zw_push zr_140_17 ?_
          refine zw_R zr_140_18 (by decide) zm_140 (v := (0, 0)) (zRetB (by omega)) ?_
          rw [← hQ1]
          show zW E (d) 180 21 [(2, 69), (0, a0), (0, a1)] [(0, 0)] m0 Q
          refine zw_40_4 zr_180_21 ?_ ?_
          · intro h12; omega
          · intro h13
            refine zw_push zr_180_24 ?_
            refine zw_R zr_180_26 (by decide) zm_180 (v := (0, (-2))) rfl ?_
            rw [← hQ]; exact ⟨_, rfl, by omega, by omega, hI0, hF0, by omega⟩
        · intro h14
          refine zw_5 zr_140_6 rfl ?_
          refine zw_6 zr_140_7 rfl ?_
          refine zw_39_2 zr_140_9 zr_140_10 ?_ ?_
          · intro h15
            refine zw_push zr_140_17 ?_
            refine zw_R zr_140_18 (by decide) zm_140 (v := (0, 0)) (zRetB (by omega)) ?_
            rw [← hQ1]
            show zW E (d) 180 21 [(2, 69), (0, a0), (0, a1)] [(0, 0)] m0 Q
            refine zw_40_4 zr_180_21 ?_ ?_
            · intro h16; omega
            · intro h17
              refine zw_push zr_180_24 ?_
              refine zw_R zr_180_26 (by decide) zm_180 (v := (0, (-2))) rfl ?_
              rw [← hQ]; exact ⟨_, rfl, by omega, by omega, hI0, hF0, by omega⟩
          · intro h18
            refine zw_push zr_140_13 ?_
            refine zw_42 zr_140_14 ?_
            refine zw_R zr_140_18 (by decide) zm_140 (v := (0, 1)) (zRetB (by omega)) ?_
            rw [← hQ1]
            show zW E (d) 180 21 [(2, 69), (0, a0), (0, a1)] [(0, 1)] m0 Q
            refine zw_40_4 zr_180_21 ?_ ?_
            · intro h19
              refine zw_7 zr_180_27 rfl ?_
              refine zw_46r (s := 70) zr_180_28 rfl rfl rfl rfl ?_
              refine zw_push zr_180_31 ?_
              refine zw_3 zr_180_34 rfl ?_
              refine zw_49 (c := 70) (len := 826) zr_180_35 rfl rfl (by omega) (by omega) ?_
              intro m20 em20
              have hIm20 : zInv m20 := by rw [em20]; exact iu_70_wide hI0 (by omega) (by omega)
              have hFm20 : zFr W_180 m0 m20 := by rw [em20]; exact hF0.any rfl
              have km20_70_824 : m20 70 824 = a0 := by rw [em20, show (824 : Int).toNat = 824 by omega]; exact zUp_eq _ _ _ _
              clear em20
              refine zw_7 zr_180_36 rfl ?_
              refine zw_46r (s := 70) zr_180_37 rfl rfl rfl rfl ?_
              refine zw_push zr_180_40 ?_
              refine zw_3 zr_180_43 rfl ?_
              refine zw_49 (c := 70) (len := 826) zr_180_44 rfl rfl (by omega) (by omega) ?_
              intro m21 em21
              have hIm21 : zInv m21 := by rw [em21]; exact iu_70_even hIm20 (by omega) (by omega)
              have hFm21 : zFr W_180 m0 m21 := by rw [em21]; exact hFm20.any rfl
              have km21_70_824 : m21 70 824 = a0 := by rw [em21, zUp_ne (by omega)]; exact km20_70_824
              have km21_70_825 : m21 70 825 = a1 := by rw [em21, show (825 : Int).toNat = 825 by omega]; exact zUp_eq _ _ _ _
              clear em21
              refine zw_push zr_180_45 ?_
              refine zw_R zr_180_46 (by decide) zm_180 (v := (0, 1)) rfl ?_
              rw [← hQ]; exact ⟨_, rfl, by omega, by omega, hIm21, hFm21, by omega⟩
            · intro h22; omega

set_option maxHeartbeats 8000000 in
theorem th_58 {E : zE} {d : Nat} {m0 : zM} {a0 : Int} {a1 : Int} (hd : 1 ≤ d) (hI0 : zInv m0) (ha0 : 0 ≤ a0 ∧ a0 ≤ 9) (ha1 : 0 ≤ a1 ∧ a1 ≤ 99) : zC E d 58 [(2, 1), (0, a0), (0, a1)] m0 (fun v m' => ∃ r : Int, v = (0, r) ∧ (-500) ≤ r ∧ r ≤ 500 ∧ m0 = m') := by
  generalize hQ : (fun (v : zV) (m' : zM) => ∃ r : Int, v = (0, r) ∧ (-500) ≤ r ∧ r ≤ 500 ∧ m0 = m') = Q
  show zW E d 58 0 [(2, 1), (0, a0), (0, a1)] [] m0 Q
  refine zw_7 zr_58_0 rfl ?_
  refine zw_46r (s := 12) zr_58_1 rfl rfl rfl rfl ?_
  refine zw_push zr_58_4 ?_
  refine zw_push zr_58_5 ?_
  refine zw_3 zr_58_8 rfl ?_
  refine zw_7 zr_58_9 rfl ?_
  refine zw_46r (s := 2) zr_58_10 rfl rfl rfl rfl ?_
  refine zw_3 zr_58_13 rfl ?_
  refine zw_48 (c := 2) (len := 10) zr_58_14 rfl rfl (by omega) (by omega) ?_
  intro x1 ex1
  have bx1 := ib_2 hI0 (k := (a0).toNat) (by omega)
  rw [← ex1] at bx1
  clear ex1
  refine zw_17 zr_58_15 (by omega) ?_
  refine zw_121 zr_58_16 (Nat.le_of_ble_eq_true rfl) (by omega) (by omega) (by omega) ?_
  intro x2 hx2a hx2b hx2c
  refine zw_120 zr_58_19 (Nat.le_of_ble_eq_true rfl) (by omega) (by omega) (by omega) ?_
  intro x3 hx3a hx3b hx3c
  refine zw_48 (c := 12) (len := 160) zr_58_22 rfl rfl (by omega) (by omega) ?_
  intro x4 ex4
  have bx4 := ib_12 hI0 (k := (x3).toNat) (by omega)
  rw [← ex4] at bx4
  clear ex4
  refine zw_R zr_58_23 (by decide) zm_58 (v := (0, x4)) rfl ?_
  rw [← hQ]; exact ⟨_, rfl, by omega, by omega, rfl⟩

abbrev W_78 : List (Nat × Nat) := [(56, 1000), (57, 1000)]
set_option maxHeartbeats 8000000 in
theorem th_78 {E : zE} {d : Nat} {m0 : zM} (hd : 2 ≤ d) (hI0 : zInv m0) : zC E d 78 [(2, 55)] m0 (fun v m' => v = (9, 0) ∧ zInv m' ∧ zFr W_78 m0 m') := by
  have hF0 : zFr W_78 m0 m0 := zFr.rfl
  generalize hQ : (fun (v : zV) (m' : zM) => v = (9, 0) ∧ zInv m' ∧ zFr W_78 m0 m') = Q
  show zW E d 78 0 [(2, 55), (9, 0), (9, 0), (9, 0), (9, 0)] [] m0 Q
  refine zw_push zr_78_0 ?_
  refine zw_9 (L' := [(2, 55), (0, 0), (9, 0), (9, 0), (9, 0)]) zr_78_1 (Nat.le_of_ble_eq_true rfl) rfl ?_
  have lp2_3 : ∀ (nlp2_3 : Nat) (i1 : Int) (m2 : zM), zInv m2 → zFr W_78 m0 m2 → 0 ≤ i1 → i1 ≤ 60 → (60 - i1).toNat < nlp2_3 → zW E (d) 78 2 [(2, 55), (0, i1), (9, 0), (9, 0), (9, 0)] [] m2 Q := by
    intro nlp2_3
    induction nlp2_3 with
    | zero =>
      intros
      exact absurd (by assumption : _ < 0) (Nat.not_lt_zero _)
    | succ nlp2_3 ihlp2_3 =>
      intro i1 m2 hIm2 hFm2 li1 ui1 hmlp2_3
      refine zw_3 zr_78_2 rfl ?_
      refine zw_7 zr_78_3 rfl ?_
      refine zw_46r (s := 1) zr_78_4 rfl rfl rfl rfl ?_
      obtain ⟨f5, ef5⟩ : ∃ v, m2 1 1 = v := ⟨_, rfl⟩
      have bf5 := ib_1_1 hIm2
      rw [ef5] at bf5
      refine zw_46i zr_78_7 ef5 rfl rfl rfl ?_
      refine zw_41_3 zr_78_10 ?_ ?_
      · intro h6
        refine zw_R zr_78_167 (by decide) zm_78 (v := (9, 0)) rfl ?_
        rw [← hQ]; exact ⟨rfl, hIm2, hFm2⟩
      · intro h7
        refine zw_7 zr_78_13 rfl ?_
        refine zw_46r (s := 1) zr_78_14 rfl rfl rfl rfl ?_
        refine zw_46r (s := 5) zr_78_17 rfl rfl rfl rfl ?_
        refine zw_3 zr_78_20 rfl ?_
        refine zw_48 (c := 5) (len := 60) zr_78_21 rfl rfl (by omega) (by omega) ?_
        intro x8 ex8
        have bx8 := ib_5 hIm2 (k := (i1).toNat) (by omega)
        rw [← ex8] at bx8
        clear ex8
        refine zw_9 (L' := [(2, 55), (0, i1), (0, x8), (9, 0), (9, 0)]) zr_78_22 (Nat.le_of_ble_eq_true rfl) rfl ?_
        refine zw_7 zr_78_23 rfl ?_
        refine zw_46r (s := 1) zr_78_24 rfl rfl rfl rfl ?_
        refine zw_7 zr_78_27 rfl ?_
        refine zw_46r (s := 1) zr_78_28 rfl rfl rfl rfl ?_
        refine zw_46r (s := 6) zr_78_31 rfl rfl rfl rfl ?_
        refine zw_3 zr_78_34 rfl ?_
        refine zw_48 (c := 6) (len := 60) zr_78_35 rfl rfl (by omega) (by omega) ?_
        intro x9 ex9
        have bx9 := ib_6 hIm2 (k := (i1).toNat) (by omega)
        rw [← ex9] at bx9
        clear ex9
        refine zw_3 zr_78_36 rfl ?_
        refine zw_C zr_78_37 (Or.inl rfl) zm_58 rfl rfl ⟨Nat.le_of_ble_eq_true rfl, Nat.le_of_ble_eq_true rfl, Nat.le_of_ble_eq_true rfl, rfl, by decide⟩ (by omega) (th_58 (d := d - 1) (by omega) hIm2 (a0 := x9) (a1 := x8)   (by omega) (by omega)) ?_
        rintro _ _ ⟨r10, rfl, hr10a, hr10b, rfl⟩
        show zW E (d) 78 40 [(2, 55), (0, i1), (0, x8), (9, 0), (9, 0)] [(0, r10)] m2 Q
        refine zw_7 zr_78_40 rfl ?_
        refine zw_46r (s := 1) zr_78_41 rfl rfl rfl rfl ?_
        refine zw_7 zr_78_44 rfl ?_
        refine zw_46r (s := 1) zr_78_45 rfl rfl rfl rfl ?_
        refine zw_46r (s := 7) zr_78_48 rfl rfl rfl rfl ?_
        refine zw_3 zr_78_51 rfl ?_
        refine zw_48 (c := 7) (len := 60) zr_78_52 rfl rfl (by omega) (by omega) ?_
        intro x11 ex11
        have bx11 := ib_7 hIm2 (k := (i1).toNat) (by omega)
        rw [← ex11] at bx11
        clear ex11
        refine zw_3 zr_78_53 rfl ?_
        refine zw_C zr_78_54 (Or.inl rfl) zm_58 rfl rfl ⟨Nat.le_of_ble_eq_true rfl, Nat.le_of_ble_eq_true rfl, Nat.le_of_ble_eq_true rfl, rfl, by decide⟩ (by omega) (th_58 (d := d - 1) (by omega) hIm2 (a0 := x11) (a1 := x8)   (by omega) (by omega)) ?_
        rintro _ _ ⟨r12, rfl, hr12a, hr12b, rfl⟩
        show zW E (d) 78 57 [(2, 55), (0, i1), (0, x8), (9, 0), (9, 0)] [(0, r12), (0, r10)] m2 Q
        refine zw_17 zr_78_57 (by omega) ?_
        refine zw_9 (L' := [(2, 55), (0, i1), (0, x8), (0, (r10 - r12)), (9, 0)]) zr_78_58 (Nat.le_of_ble_eq_true rfl) rfl ?_
        refine zw_7 zr_78_59 rfl ?_
        refine zw_46r (s := 1) zr_78_60 rfl rfl rfl rfl ?_
        refine zw_46r (s := 8) zr_78_63 rfl rfl rfl rfl ?_
        refine zw_3 zr_78_66 rfl ?_
        refine zw_48 (c := 8) (len := 60) zr_78_67 rfl rfl (by omega) (by omega) ?_
        intro x13 ex13
        have bx13 := ib_8 hIm2 (k := (i1).toNat) (by omega)
        rw [← ex13] at bx13
        clear ex13
        refine zw_10 (L' := [(2, 55), (0, i1), (0, x8), (0, (r10 - r12)), (0, x13)]) zr_78_68 (Nat.le_of_ble_eq_true rfl) rfl ?_
        refine zw_4 zr_78_70 rfl ?_
        refine zw_push zr_78_72 ?_
        refine zw_41_4 zr_78_73 ?_ ?_
        · intro h14
          refine zw_7 zr_78_110 rfl ?_
          refine zw_46r (s := 56) zr_78_111 rfl rfl rfl rfl ?_
          refine zw_3 zr_78_114 rfl ?_
          refine zw_4 zr_78_115 rfl ?_
          refine zw_push zr_78_117 ?_
          refine zw_41_4 zr_78_118 ?_ ?_
          · intro h15
            refine zw_7 zr_78_125 rfl ?_
            refine zw_46r (s := 1) zr_78_126 rfl rfl rfl rfl ?_
            obtain ⟨f16, ef16⟩ : ∃ v, m2 1 4 = v := ⟨_, rfl⟩
            have bf16 := ib_1_4 hIm2
            rw [ef16] at bf16
            refine zw_46i zr_78_129 ef16 rfl rfl rfl ?_
            refine zw_38 zr_78_132 (by omega) ?_
            refine zw_3 zr_78_133 rfl ?_
            refine zw_17 zr_78_134 (by omega) ?_
            refine zw_49 (c := 56) (len := 60) zr_78_135 rfl rfl (by omega) (by omega) ?_
            intro m17 em17
            have hIm17 : zInv m17 := by rw [em17]; exact hIm2.any (by omega) rfl (by decide) (by decide)
            have hFm17 : zFr W_78 m0 m17 := by rw [em17]; exact hFm2.any rfl
            have km17_1_1 : m17 1 1 = f5 := by rw [em17, zUp_ne (by omega)]; exact ef5
            have km17_1_4 : m17 1 4 = f16 := by rw [em17, zUp_ne (by omega)]; exact ef16
            clear em17
            refine zw_7 zr_78_136 rfl ?_
            refine zw_46r (s := 57) zr_78_137 rfl rfl rfl rfl ?_
            refine zw_3 zr_78_140 rfl ?_
            refine zw_4 zr_78_141 rfl ?_
            refine zw_push zr_78_143 ?_
            refine zw_41_4 zr_78_144 ?_ ?_
            · intro h18
              refine zw_push zr_78_157 ?_
              refine zw_3 zr_78_158 rfl ?_
              refine zw_17 zr_78_159 (by omega) ?_
              refine zw_49 (c := 57) (len := 60) zr_78_160 rfl rfl (by omega) (by omega) ?_
              intro m19 em19
              have hIm19 : zInv m19 := by rw [em19]; exact hIm17.any (by omega) rfl (by decide) (by decide)
              have hFm19 : zFr W_78 m0 m19 := by rw [em19]; exact hFm17.any rfl
              have km19_1_1 : m19 1 1 = f5 := by rw [em19, zUp_ne (by omega)]; exact km17_1_1
              have km19_1_4 : m19 1 4 = f16 := by rw [em19, zUp_ne (by omega)]; exact km17_1_4
              clear em19
              refine zw_15 (c := 1) (L' := [(2, 55), (0, (i1 + 1)), (0, x8), (0, (r10 - r12)), (0, x13)]) zr_78_161 rfl (by decide) (by omega) rfl ?_
              refine zw_42 zr_78_164 ?_
              exact zw_less (L := [(2, 55), (0, (i1 + 1)), (9, 0), (9, 0), (9, 0)]) ⟨Or.inr rfl, Or.inr rfl, Or.inl rfl, Or.inl rfl, Or.inl rfl, trivial⟩ (ihlp2_3 ((i1 + 1)) m19 hIm19 hFm19   (by omega) (by omega) (by omega))
            · intro h20; omega
          · intro h21
            refine zw_push zr_78_121 ?_
            refine zw_42 zr_78_122 ?_
            refine zw_3 zr_78_133 rfl ?_
            refine zw_17 zr_78_134 (by omega) ?_
            refine zw_49 (c := 56) (len := 60) zr_78_135 rfl rfl (by omega) (by omega) ?_
            intro m22 em22
            have hIm22 : zInv m22 := by rw [em22]; exact hIm2.any (by omega) rfl (by decide) (by decide)
            have hFm22 : zFr W_78 m0 m22 := by rw [em22]; exact hFm2.any rfl
            have km22_1_1 : m22 1 1 = f5 := by rw [em22, zUp_ne (by omega)]; exact ef5
            clear em22
            refine zw_7 zr_78_136 rfl ?_
            refine zw_46r (s := 57) zr_78_137 rfl rfl rfl rfl ?_
            refine zw_3 zr_78_140 rfl ?_
            refine zw_4 zr_78_141 rfl ?_
            refine zw_push zr_78_143 ?_
            refine zw_41_4 zr_78_144 ?_ ?_
            · intro h23; omega
            · intro h24
              refine zw_7 zr_78_147 rfl ?_
              refine zw_46r (s := 1) zr_78_148 rfl rfl rfl rfl ?_
              obtain ⟨f25, ef25⟩ : ∃ v, m22 1 4 = v := ⟨_, rfl⟩
              have bf25 := ib_1_4 hIm22
              rw [ef25] at bf25
              refine zw_46i zr_78_151 ef25 rfl rfl rfl ?_
              refine zw_42 zr_78_154 ?_
              refine zw_3 zr_78_158 rfl ?_
              refine zw_17 zr_78_159 (by omega) ?_
              refine zw_49 (c := 57) (len := 60) zr_78_160 rfl rfl (by omega) (by omega) ?_
              intro m26 em26
              have hIm26 : zInv m26 := by rw [em26]; exact hIm22.any (by omega) rfl (by decide) (by decide)
              have hFm26 : zFr W_78 m0 m26 := by rw [em26]; exact hFm22.any rfl
              have km26_1_1 : m26 1 1 = f5 := by rw [em26, zUp_ne (by omega)]; exact km22_1_1
              have km26_1_4 : m26 1 4 = f25 := by rw [em26, zUp_ne (by omega)]; exact ef25
              clear em26
              refine zw_15 (c := 1) (L' := [(2, 55), (0, (i1 + 1)), (0, x8), (0, (r10 - r12)), (0, x13)]) zr_78_161 rfl (by decide) (by omega) rfl ?_
              refine zw_42 zr_78_164 ?_
              exact zw_less (L := [(2, 55), (0, (i1 + 1)), (9, 0), (9, 0), (9, 0)]) ⟨Or.inr rfl, Or.inr rfl, Or.inl rfl, Or.inl rfl, Or.inl rfl, trivial⟩ (ihlp2_3 ((i1 + 1)) m26 hIm26 hFm26   (by omega) (by omega) (by omega))
        · intro h27
          refine zw_7 zr_78_76 rfl ?_
          refine zw_46r (s := 56) zr_78_77 rfl rfl rfl rfl ?_
          refine zw_3 zr_78_80 rfl ?_
          refine zw_7 zr_78_81 rfl ?_
          refine zw_46r (s := 1) zr_78_82 rfl rfl rfl rfl ?_
          obtain ⟨f28, ef28⟩ : ∃ v, m2 1 5 = v := ⟨_, rfl⟩
          have bf28 := ib_1_5 hIm2
          rw [ef28] at bf28
          refine zw_46i zr_78_85 ef28 rfl rfl rfl ?_
          refine zw_38 zr_78_88 (by omega) ?_
          refine zw_3 zr_78_89 rfl ?_
          refine zw_17 zr_78_90 (by omega) ?_
          refine zw_49 (c := 56) (len := 60) zr_78_91 rfl rfl (by omega) (by omega) ?_
          intro m29 em29
          have hIm29 : zInv m29 := by rw [em29]; exact hIm2.any (by omega) rfl (by decide) (by decide)
          have hFm29 : zFr W_78 m0 m29 := by rw [em29]; exact hFm2.any rfl
          have km29_1_1 : m29 1 1 = f5 := by rw [em29, zUp_ne (by omega)]; exact ef5
          have km29_1_5 : m29 1 5 = f28 := by rw [em29, zUp_ne (by omega)]; exact ef28
          clear em29
          refine zw_7 zr_78_92 rfl ?_
          refine zw_46r (s := 57) zr_78_93 rfl rfl rfl rfl ?_
          refine zw_3 zr_78_96 rfl ?_
          refine zw_7 zr_78_97 rfl ?_
          refine zw_46r (s := 1) zr_78_98 rfl rfl rfl rfl ?_
          refine zw_46i zr_78_101 km29_1_5 rfl rfl rfl ?_
          refine zw_3 zr_78_104 rfl ?_
          refine zw_17 zr_78_105 (by omega) ?_
          refine zw_49 (c := 57) (len := 60) zr_78_106 rfl rfl (by omega) (by omega) ?_
          intro m30 em30
          have hIm30 : zInv m30 := by rw [em30]; exact hIm29.any (by omega) rfl (by decide) (by decide)
          have hFm30 : zFr W_78 m0 m30 := by rw [em30]; exact hFm29.any rfl
          have km30_1_1 : m30 1 1 = f5 := by rw [em30, zUp_ne (by omega)]; exact km29_1_1
          have km30_1_5 : m30 1 5 = f28 := by rw [em30, zUp_ne (by omega)]; exact km29_1_5
          clear em30
          refine zw_42 zr_78_107 ?_
          refine zw_15 (c := 1) (L' := [(2, 55), (0, (i1 + 1)), (0, x8), (0, (r10 - r12)), (0, x13)]) zr_78_161 rfl (by decide) (by omega) rfl ?_
          refine zw_42 zr_78_164 ?_
          exact zw_less (L := [(2, 55), (0, (i1 + 1)), (9, 0), (9, 0), (9, 0)]) ⟨Or.inr rfl, Or.inr rfl, Or.inl rfl, Or.inl rfl, Or.inl rfl, trivial⟩ (ihlp2_3 ((i1 + 1)) m30 hIm30 hFm30   (by omega) (by omega) (by omega))
  exact lp2_3 _ (0) m0 hI0 hF0   (by omega) (by omega) (Nat.lt_succ_self _)

set_option maxHeartbeats 8000000 in
theorem th_53 {E : zE} {d : Nat} {m0 : zM} (hd : 1 ≤ d) (hI0 : zInv m0) : zC E d 53 [(2, 1)] m0 (fun v m' => ∃ r : Int, v = (1, r) ∧ (-9223372036854775808) ≤ r ∧ r ≤ 9223372036854775807 ∧ m0 = m') := by
  generalize hQ : (fun (v : zV) (m' : zM) => ∃ r : Int, v = (1, r) ∧ (-9223372036854775808) ≤ r ∧ r ≤ 9223372036854775807 ∧ m0 = m') = Q
  show zW E d 53 0 [(2, 1)] [] m0 Q
  refine zw_push zr_53_0 ?_
  refine zw_7 zr_53_1 rfl ?_
  obtain ⟨f1, ef1⟩ : ∃ v, m0 1 1 = v := ⟨_, rfl⟩
  have bf1 := ib_1_1 hI0
  rw [ef1] at bf1
  refine zw_46i zr_53_2 ef1 rfl rfl rfl ?_
  refine zw_33h zr_53_5 ?_
  intro x2 hx2a hx2b
  refine zw_push zr_53_6 ?_
  refine zw_28h zr_53_7 ?_
  intro x3 hx3a hx3b
  refine zw_7 zr_53_8 rfl ?_
  obtain ⟨f4, ef4⟩ : ∃ v, m0 1 2 = v := ⟨_, rfl⟩
  have bf4 := hI0.fl (c := 1) (k := 2) rfl
  rw [ef4] at bf4
  refine zw_46l zr_53_9 ef4 rfl rfl rfl ?_
  refine zw_push zr_53_12 ?_
  refine zw_32h zr_53_15 ?_
  intro x5 hx5a hx5b
  refine zw_30h zr_53_16 ?_
  intro x6 hx6a hx6b
  refine zw_7 zr_53_17 rfl ?_
  obtain ⟨f7, ef7⟩ : ∃ v, m0 1 3 = v := ⟨_, rfl⟩
  have bf7 := hI0.fl (c := 1) (k := 3) rfl
  rw [ef7] at bf7
  refine zw_46l zr_53_18 ef7 rfl rfl rfl ?_
  refine zw_push zr_53_21 ?_
  refine zw_32h zr_53_24 ?_
  intro x8 hx8a hx8b
  refine zw_30h zr_53_25 ?_
  intro x9 hx9a hx9b
  refine zw_R zr_53_26 (by decide) zm_53 (v := (1, x9)) rfl ?_
  rw [← hQ]; exact ⟨_, rfl, by omega, by omega, rfl⟩

abbrev W_4_58 : List (Nat × Nat) := [(58, 1000)]
set_option maxHeartbeats 8000000 in
theorem th_4_58 {E : zE} {d : Nat} {m0 : zM} {a0 : Int} (hd : 1 ≤ d) (hI0 : zInv m0) (ha0 : 0 ≤ a0 ∧ a0 ≤ 2147483647) : zC E d 4 [(2, 58), (0, a0)] m0 (fun v m' => v = (9, 0) ∧ zInv m' ∧ zFr W_4_58 m0 m') := by
  have hF0 : zFr W_4_58 m0 m0 := zFr.rfl
  generalize hQ : (fun (v : zV) (m' : zM) => v = (9, 0) ∧ zInv m' ∧ zFr W_4_58 m0 m') = Q
  show zW E d 4 0 [(2, 58), (0, a0), (9, 0), (9, 0)] [] m0 Q
  refine zw_push zr_4_0 ?_
  refine zw_9 (L' := [(2, 58), (0, a0), (0, 0), (9, 0)]) zr_4_1 (Nat.le_of_ble_eq_true rfl) rfl ?_
  refine zw_7 zr_4_2 rfl ?_
  refine zw_101 (c := 58) (len := 10) zr_4_3 rfl rfl (by decide) ?_
  refine zw_9 (L' := [(2, 58), (0, a0), (0, 0), (0, 10)]) zr_4_4 (Nat.le_of_ble_eq_true rfl) rfl ?_
  have lp5_3 : ∀ (nlp5_3 : Nat) (i1 : Int) (m2 : zM), zInv m2 → zFr W_4_58 m0 m2 → 0 ≤ i1 → i1 ≤ 10 → (10 - i1).toNat < nlp5_3 → zW E (d) 4 5 [(2, 58), (0, a0), (0, i1), (0, 10)] [] m2 Q := by
    intro nlp5_3
    induction nlp5_3 with
    | zero =>
      intros
      exact absurd (by assumption : _ < 0) (Nat.not_lt_zero _)
    | succ nlp5_3 ihlp5_3 =>
      intro i1 m2 hIm2 hFm2 li1 ui1 hmlp5_3
      refine zw_3 zr_4_5 rfl ?_
      refine zw_3 zr_4_6 rfl ?_
      refine zw_41_3 zr_4_7 ?_ ?_
      · intro h5
        refine zw_R zr_4_20 (by decide) zm_4 (v := (9, 0)) rfl ?_
        rw [← hQ]; exact ⟨rfl, hIm2, hFm2⟩
      · intro h6
        refine zw_7 zr_4_10 rfl ?_
        refine zw_3 zr_4_11 rfl ?_
        refine zw_3 zr_4_12 rfl ?_
        refine zw_49 (c := 58) (len := 10) zr_4_13 rfl rfl (by omega) (by omega) ?_
        intro m7 em7
        have hIm7 : zInv m7 := by rw [em7]; exact hIm2.any (by omega) rfl (by decide) (by decide)
        have hFm7 : zFr W_4_58 m0 m7 := by rw [em7]; exact hFm2.any rfl
        clear em7
        refine zw_15 (c := 1) (L' := [(2, 58), (0, a0), (0, (i1 + 1)), (0, 10)]) zr_4_14 rfl (by decide) (by omega) rfl ?_
        refine zw_42 zr_4_17 ?_
        exact zw_less (L := [(2, 58), (0, a0), (0, (i1 + 1)), (0, 10)]) ⟨Or.inr rfl, Or.inr rfl, Or.inr rfl, Or.inr rfl, trivial⟩ (ihlp5_3 ((i1 + 1)) m7 hIm7 hFm7   (by omega) (by omega) (by omega))
  exact lp5_3 _ (0) m0 hI0 hF0   (by omega) (by omega) (Nat.lt_succ_self _)

abbrev W_4_59 : List (Nat × Nat) := [(59, 1000)]
set_option maxHeartbeats 8000000 in
theorem th_4_59 {E : zE} {d : Nat} {m0 : zM} {a0 : Int} (hd : 1 ≤ d) (hI0 : zInv m0) (ha0 : (-1) ≤ a0 ∧ a0 ≤ (-1)) : zC E d 4 [(2, 59), (0, a0)] m0 (fun v m' => v = (9, 0) ∧ zInv m' ∧ zFr W_4_59 m0 m') := by
  have hF0 : zFr W_4_59 m0 m0 := zFr.rfl
  generalize hQ : (fun (v : zV) (m' : zM) => v = (9, 0) ∧ zInv m' ∧ zFr W_4_59 m0 m') = Q
  show zW E d 4 0 [(2, 59), (0, a0), (9, 0), (9, 0)] [] m0 Q
  refine zw_push zr_4_0 ?_
  refine zw_9 (L' := [(2, 59), (0, a0), (0, 0), (9, 0)]) zr_4_1 (Nat.le_of_ble_eq_true rfl) rfl ?_
  refine zw_7 zr_4_2 rfl ?_
  refine zw_101 (c := 59) (len := 10) zr_4_3 rfl rfl (by decide) ?_
  refine zw_9 (L' := [(2, 59), (0, a0), (0, 0), (0, 10)]) zr_4_4 (Nat.le_of_ble_eq_true rfl) rfl ?_
  have lp5_3 : ∀ (nlp5_3 : Nat) (i1 : Int) (m2 : zM), zInv m2 → zFr W_4_59 m0 m2 → 0 ≤ i1 → i1 ≤ 10 → (10 - i1).toNat < nlp5_3 → zW E (d) 4 5 [(2, 59), (0, a0), (0, i1), (0, 10)] [] m2 Q := by
    intro nlp5_3
    induction nlp5_3 with
    | zero =>
      intros
      exact absurd (by assumption : _ < 0) (Nat.not_lt_zero _)
    | succ nlp5_3 ihlp5_3 =>
      intro i1 m2 hIm2 hFm2 li1 ui1 hmlp5_3
      refine zw_3 zr_4_5 rfl ?_
      refine zw_3 zr_4_6 rfl ?_
      refine zw_41_3 zr_4_7 ?_ ?_
      · intro h5
        refine zw_R zr_4_20 (by decide) zm_4 (v := (9, 0)) rfl ?_
        rw [← hQ]; exact ⟨rfl, hIm2, hFm2⟩
      · intro h6
        refine zw_7 zr_4_10 rfl ?_
        refine zw_3 zr_4_11 rfl ?_
        refine zw_3 zr_4_12 rfl ?_
        refine zw_49 (c := 59) (len := 10) zr_4_13 rfl rfl (by omega) (by omega) ?_
        intro m7 em7
        have hIm7 : zInv m7 := by rw [em7]; exact iu_59 hIm2 (by omega)
        have hFm7 : zFr W_4_59 m0 m7 := by rw [em7]; exact hFm2.any rfl
        clear em7
        refine zw_15 (c := 1) (L' := [(2, 59), (0, a0), (0, (i1 + 1)), (0, 10)]) zr_4_14 rfl (by decide) (by omega) rfl ?_
        refine zw_42 zr_4_17 ?_
        exact zw_less (L := [(2, 59), (0, a0), (0, (i1 + 1)), (0, 10)]) ⟨Or.inr rfl, Or.inr rfl, Or.inr rfl, Or.inr rfl, trivial⟩ (ihlp5_3 ((i1 + 1)) m7 hIm7 hFm7   (by omega) (by omega) (by omega))
  exact lp5_3 _ (0) m0 hI0 hF0   (by omega) (by omega) (Nat.lt_succ_self _)

abbrev W_79 : List (Nat × Nat) := [(58, 1000), (59, 1000)]
set_option maxHeartbeats 8000000 in
theorem th_79 {E : zE} {d : Nat} {m0 : zM} {a0 : Int} {a1 : Int} {a2 : Int} {a3 : Int} (hd : 1 ≤ d) (hI0 : zInv m0) (ha0 : 0 ≤ a0 ∧ a0 ≤ 9) (ha1 : 0 ≤ a1 ∧ a1 ≤ 9) (ha2 : (-2147483648) ≤ a2 ∧ a2 ≤ 2147483647) (ha3 : 0 ≤ a3 ∧ a3 ≤ 59) : zC E d 79 [(2, 55), (0, a0), (0, a1), (0, a2), (0, a3)] m0 (fun v m' => ∃ r : Int, v = (0, r) ∧ 0 ≤ r ∧ r ≤ 1 ∧ zInv m' ∧ zFr W_79 m0 m') := by
  have hF0 : zFr W_79 m0 m0 := zFr.rfl
  generalize hQ : (fun (v : zV) (m' : zM) => ∃ r : Int, v = (0, r) ∧ 0 ≤ r ∧ r ≤ 1 ∧ zInv m' ∧ zFr W_79 m0 m') = Q
  show zW E d 79 0 [(2, 55), (0, a0), (0, a1), (0, a2), (0, a3)] [] m0 Q
  refine zw_7 zr_79_0 rfl ?_
  refine zw_46r (s := 58) zr_79_1 rfl rfl rfl rfl ?_
  refine zw_3 zr_79_4 rfl ?_
  refine zw_48 (c := 58) (len := 10) zr_79_5 rfl rfl (by omega) (by omega) ?_
  intro x1 ex1
  have bx1 := hI0.ra (c := 58) (len := 10) (k := (a1).toNat) rfl (by omega)
  rw [← ex1] at bx1
  refine zw_push zr_79_6 ?_
  refine zw_41_1 zr_79_8 ?_ ?_
  · intro h2
    refine zw_push zr_79_28 ?_
    refine zw_R zr_79_29 (by decide) zm_79 (v := (0, 0)) (zRetB (by omega)) ?_
    rw [← hQ]; exact ⟨_, rfl, by omega, by omega, hI0, hF0⟩
  · intro h3
    refine zw_7 zr_79_11 rfl ?_
    refine zw_46r (s := 58) zr_79_12 rfl rfl rfl rfl ?_
    refine zw_3 zr_79_15 rfl ?_
    refine zw_48 (c := 58) (len := 10) zr_79_16 rfl rfl (by omega) (by omega) ?_
    intro x4 ex4
    have bx4 := hI0.ra (c := 58) (len := 10) (k := (a0).toNat) rfl (by omega)
    rw [← ex4] at bx4
    clear ex4
    refine zw_7 zr_79_17 rfl ?_
    refine zw_46r (s := 58) zr_79_18 rfl rfl rfl rfl ?_
    refine zw_3 zr_79_21 rfl ?_
    refine zw_48k (c := 58) (len := 10) zr_79_22 rfl rfl (by omega) (by omega) rfl ex1.symm ?_
    refine zw_3 zr_79_23 rfl ?_
    refine zw_16h zr_79_24 ?_
    intro x5 hx5a hx5b
    refine zw_41_2 zr_79_25 ?_ ?_
    · intro h6
      refine zw_7 zr_79_30 rfl ?_
      refine zw_46r (s := 58) zr_79_31 rfl rfl rfl rfl ?_
      refine zw_3 zr_79_34 rfl ?_
      refine zw_7 zr_79_35 rfl ?_
      refine zw_46r (s := 58) zr_79_36 rfl rfl rfl rfl ?_
      refine zw_3 zr_79_39 rfl ?_
      refine zw_48k (c := 58) (len := 10) zr_79_40 rfl rfl (by omega) (by omega) rfl ex1.symm ?_
      refine zw_3 zr_79_41 rfl ?_
      refine zw_16h zr_79_42 ?_
      intro x7 hx7a hx7b
      refine zw_49 (c := 58) (len := 10) zr_79_43 rfl rfl (by omega) (by omega) ?_
      intro m8 em8
      have hIm8 : zInv m8 := by rw [em8]; exact hI0.any (by omega) rfl (by decide) (by decide)
      have hFm8 : zFr W_79 m0 m8 := by rw [em8]; exact hF0.any rfl
      clear em8
      refine zw_7 zr_79_44 rfl ?_
      refine zw_46r (s := 59) zr_79_45 rfl rfl rfl rfl ?_
      refine zw_3 zr_79_48 rfl ?_
      refine zw_4 zr_79_49 rfl ?_
      refine zw_49 (c := 59) (len := 10) zr_79_51 rfl rfl (by omega) (by omega) ?_
      intro m9 em9
      have hIm9 : zInv m9 := by rw [em9]; exact iu_59 hIm8 (by omega)
      have hFm9 : zFr W_79 m0 m9 := by rw [em9]; exact hFm8.any rfl
      clear em9
      refine zw_push zr_79_52 ?_
      refine zw_R zr_79_53 (by decide) zm_79 (v := (0, 1)) (zRetB (by omega)) ?_
      rw [← hQ]; exact ⟨_, rfl, by omega, by omega, hIm9, hFm9⟩
    · intro h10
      refine zw_push zr_79_28 ?_
      refine zw_R zr_79_29 (by decide) zm_79 (v := (0, 0)) (zRetB (by omega)) ?_
      rw [← hQ]; exact ⟨_, rfl, by omega, by omega, hI0, hF0⟩

abbrev W_80 : List (Nat × Nat) := [(58, 1000), (59, 1000)]
set_option maxHeartbeats 8000000 in
theorem th_80 {E : zE} {d : Nat} {m0 : zM} {a0 : Int} (hd : 2 ≤ d) (hI0 : zInv m0) (ha0 : (-9223372036854775808) ≤ a0 ∧ a0 ≤ 9223372036854775807) : zC E d 80 [(2, 55), (1, a0)] m0 (fun v m' => ∃ r : Int, v = (0, r) ∧ 0 ≤ r ∧ r ≤ 1 ∧ zInv m' ∧ zFr W_80 m0 m') := by
  have hF0 : zFr W_80 m0 m0 := zFr.rfl
  generalize hQ : (fun (v : zV) (m' : zM) => ∃ r : Int, v = (0, r) ∧ 0 ≤ r ∧ r ≤ 1 ∧ zInv m' ∧ zFr W_80 m0 m') = Q
  show zW E d 80 0 [(2, 55), (1, a0), (9, 0), (9, 0), (9, 0), (9, 0), (9, 0), (9, 0), (9, 0)] [] m0 Q
  refine zw_push zr_80_0 ?_
  refine zw_9 (L' := [(2, 55), (1, a0), (9, 0), (0, 0), (9, 0), (9, 0), (9, 0), (9, 0), (9, 0)]) zr_80_1 (Nat.le_of_ble_eq_true rfl) rfl ?_
  refine zw_push zr_80_2 ?_
  refine zw_10 (L' := [(2, 55), (1, a0), (9, 0), (0, 0), (0, 0), (9, 0), (9, 0), (9, 0), (9, 0)]) zr_80_3 (Nat.le_of_ble_eq_true rfl) rfl ?_
  have lp5_4 : ∀ (nlp5_4 : Nat) (i1 i2 : Int) (m3 : zM), zInv m3 → zFr W_80 m0 m3 → 0 ≤ i1 → i1 ≤ 1 → 0 ≤ i2 → i2 ≤ 60 → (60 - i2).toNat < nlp5_4 → zW E (d) 80 5 [(2, 55), (1, a0), (9, 0), (0, i1), (0, i2), (9, 0), (9, 0), (9, 0), (9, 0)] [] m3 Q := by
    intro nlp5_4
    induction nlp5_4 with
    | zero =>
      intros
      exact absurd (by assumption : _ < 0) (Nat.not_lt_zero _)
    | succ nlp5_4 ihlp5_4 =>
      intro i1 i2 m3 hIm3 hFm3 li1 ui1 li2 ui2 hmlp5_4
      refine zw_4 zr_80_5 rfl ?_
      refine zw_7 zr_80_7 rfl ?_
      refine zw_46r (s := 1) zr_80_8 rfl rfl rfl rfl ?_
      obtain ⟨f6, ef6⟩ : ∃ v, m3 1 1 = v := ⟨_, rfl⟩
      have bf6 := ib_1_1 hIm3
      rw [ef6] at bf6
      refine zw_46i zr_80_11 ef6 rfl rfl rfl ?_
      refine zw_41_3 zr_80_14 ?_ ?_
      · intro h7
        refine zw_3 zr_80_117 rfl ?_
        refine zw_R zr_80_118 (by decide) zm_80 (v := (0, i1)) (zRetB (by omega)) ?_
        rw [← hQ]; exact ⟨_, rfl, by omega, by omega, hIm3, hFm3⟩
      · intro h8
        refine zw_5 zr_80_17 rfl ?_
        refine zw_4 zr_80_18 rfl ?_
        refine zw_34h zr_80_20 ?_
        intro x9 hx9a hx9b
        refine zw_push zr_80_21 ?_
        refine zw_30h zr_80_22 ?_
        intro x10 hx10a hx10b
        refine zw_push zr_80_23 ?_
        refine zw_39_1 zr_80_24 zr_80_25 ?_ ?_
        · intro h11
          refine zw_15 (c := 1) (L' := [(2, 55), (1, a0), (9, 0), (0, i1), (0, (i2 + 1)), (9, 0), (9, 0), (9, 0), (9, 0)]) zr_80_111 rfl (by decide) (by omega) rfl ?_
          refine zw_42 zr_80_114 ?_
          exact zw_less (L := [(2, 55), (1, a0), (9, 0), (0, i1), (0, (i2 + 1)), (9, 0), (9, 0), (9, 0), (9, 0)]) ⟨Or.inr rfl, Or.inr rfl, Or.inl rfl, Or.inr rfl, Or.inr rfl, Or.inl rfl, Or.inl rfl, Or.inl rfl, Or.inl rfl, trivial⟩ (ihlp5_4 (i1) ((i2 + 1)) m3 hIm3 hFm3   (by omega) (by omega) (by omega) (by omega) (by omega))
        · intro h12
          refine zw_7 zr_80_28 rfl ?_
          refine zw_46r (s := 1) zr_80_29 rfl rfl rfl rfl ?_
          refine zw_46r (s := 6) zr_80_32 rfl rfl rfl rfl ?_
          refine zw_4 zr_80_35 rfl ?_
          refine zw_48 (c := 6) (len := 60) zr_80_37 rfl rfl (by omega) (by omega) ?_
          intro x13 ex13
          have bx13 := ib_6 hIm3 (k := (i2).toNat) (by omega)
          rw [← ex13] at bx13
          clear ex13
          refine zw_10 (L' := [(2, 55), (1, a0), (9, 0), (0, i1), (0, i2), (0, x13), (9, 0), (9, 0), (9, 0)]) zr_80_38 (Nat.le_of_ble_eq_true rfl) rfl ?_
          refine zw_7 zr_80_40 rfl ?_
          refine zw_46r (s := 1) zr_80_41 rfl rfl rfl rfl ?_
          refine zw_46r (s := 7) zr_80_44 rfl rfl rfl rfl ?_
          refine zw_4 zr_80_47 rfl ?_
          refine zw_48 (c := 7) (len := 60) zr_80_49 rfl rfl (by omega) (by omega) ?_
          intro x14 ex14
          have bx14 := ib_7 hIm3 (k := (i2).toNat) (by omega)
          rw [← ex14] at bx14
          clear ex14
          refine zw_10 (L' := [(2, 55), (1, a0), (9, 0), (0, i1), (0, i2), (0, x13), (0, x14), (9, 0), (9, 0)]) zr_80_50 (Nat.le_of_ble_eq_true rfl) rfl ?_
          refine zw_7 zr_80_52 rfl ?_
          refine zw_4 zr_80_53 rfl ?_
          refine zw_4 zr_80_55 rfl ?_
          refine zw_7 zr_80_57 rfl ?_
          refine zw_46r (s := 57) zr_80_58 rfl rfl rfl rfl ?_
          refine zw_4 zr_80_61 rfl ?_
          refine zw_48 (c := 57) (len := 60) zr_80_63 rfl rfl (by omega) (by omega) ?_
          intro x15 ex15
          have bx15 := hIm3.ra (c := 57) (len := 60) (k := (i2).toNat) rfl (by omega)
          rw [← ex15] at bx15
          clear ex15
          refine zw_4 zr_80_64 rfl ?_
          refine zw_C zr_80_66 (Or.inl rfl) zm_79 rfl rfl ⟨Nat.le_of_ble_eq_true rfl, Nat.le_of_ble_eq_true rfl, Nat.le_of_ble_eq_true rfl, rfl, by decide⟩ (by omega) (th_79 (d := d - 1) (by omega) hIm3 (a0 := x13) (a1 := x14) (a2 := x15) (a3 := i2)   (by omega) (by omega) (by omega) (by omega)) ?_
          rintro _ m16 ⟨r17, rfl, hr17a, hr17b, hIm16, gm16⟩
          have hFm16 : zFr W_80 m0 m16 := hFm3.trans gm16 rfl
          have km16_1_1 : m16 1 1 = f6 := (gm16 1 1 rfl).trans ef6
          show zW E (d) 80 69 [(2, 55), (1, a0), (9, 0), (0, i1), (0, i2), (0, x13), (0, x14), (9, 0), (9, 0)] [(0, r17)] m16 Q
          refine zw_10 (L' := [(2, 55), (1, a0), (9, 0), (0, i1), (0, i2), (0, x13), (0, x14), (0, r17), (9, 0)]) zr_80_69 (Nat.le_of_ble_eq_true rfl) rfl ?_
          refine zw_7 zr_80_71 rfl ?_
          refine zw_4 zr_80_72 rfl ?_
          refine zw_4 zr_80_74 rfl ?_
          refine zw_7 zr_80_76 rfl ?_
          refine zw_46r (s := 56) zr_80_77 rfl rfl rfl rfl ?_
          refine zw_4 zr_80_80 rfl ?_
          refine zw_48 (c := 56) (len := 60) zr_80_82 rfl rfl (by omega) (by omega) ?_
          intro x18 ex18
          have bx18 := hIm16.ra (c := 56) (len := 60) (k := (i2).toNat) rfl (by omega)
          rw [← ex18] at bx18
          clear ex18
          refine zw_38h zr_80_83 ?_
          intro x19 hx19a hx19b
          refine zw_4 zr_80_84 rfl ?_
          refine zw_C zr_80_86 (Or.inl rfl) zm_79 rfl rfl ⟨Nat.le_of_ble_eq_true rfl, Nat.le_of_ble_eq_true rfl, Nat.le_of_ble_eq_true rfl, rfl, by decide⟩ (by omega) (th_79 (d := d - 1) (by omega) hIm16 (a0 := x14) (a1 := x13) (a2 := x19) (a3 := i2)   (by omega) (by omega) (by omega) (by omega)) ?_
          rintro _ m20 ⟨r21, rfl, hr21a, hr21b, hIm20, gm20⟩
          have hFm20 : zFr W_80 m0 m20 := hFm16.trans gm20 rfl
          have km20_1_1 : m20 1 1 = f6 := (gm20 1 1 rfl).trans km16_1_1
          show zW E (d) 80 89 [(2, 55), (1, a0), (9, 0), (0, i1), (0, i2), (0, x13), (0, x14), (0, r17), (9, 0)] [(0, r21)] m20 Q
          refine zw_10 (L' := [(2, 55), (1, a0), (9, 0), (0, i1), (0, i2), (0, x13), (0, x14), (0, r17), (0, r21)]) zr_80_89 (Nat.le_of_ble_eq_true rfl) rfl ?_
          refine zw_3 zr_80_91 rfl ?_
          refine zw_40_4 zr_80_92 ?_ ?_
          · intro h22
            refine zw_push zr_80_105 ?_
            refine zw_42 zr_80_106 ?_
            refine zw_9 (L' := [(2, 55), (1, a0), (9, 0), (0, 1), (0, i2), (0, x13), (0, x14), (0, r17), (0, r21)]) zr_80_110 (Nat.le_of_ble_eq_true rfl) rfl ?_
            refine zw_15 (c := 1) (L' := [(2, 55), (1, a0), (9, 0), (0, 1), (0, (i2 + 1)), (0, x13), (0, x14), (0, r17), (0, r21)]) zr_80_111 rfl (by decide) (by omega) rfl ?_
            refine zw_42 zr_80_114 ?_
            exact zw_less (L := [(2, 55), (1, a0), (9, 0), (0, 1), (0, (i2 + 1)), (9, 0), (9, 0), (9, 0), (9, 0)]) ⟨Or.inr rfl, Or.inr rfl, Or.inl rfl, Or.inr rfl, Or.inr rfl, Or.inl rfl, Or.inl rfl, Or.inl rfl, Or.inl rfl, trivial⟩ (ihlp5_4 (1) ((i2 + 1)) m20 hIm20 hFm20   (by omega) (by omega) (by omega) (by omega) (by omega))
          · intro h23
            refine zw_4 zr_80_95 rfl ?_
            refine zw_40_4 zr_80_97 ?_ ?_
            · intro h24
              refine zw_push zr_80_105 ?_
              refine zw_42 zr_80_106 ?_
              refine zw_9 (L' := [(2, 55), (1, a0), (9, 0), (0, 1), (0, i2), (0, x13), (0, x14), (0, r17), (0, r21)]) zr_80_110 (Nat.le_of_ble_eq_true rfl) rfl ?_
              refine zw_15 (c := 1) (L' := [(2, 55), (1, a0), (9, 0), (0, 1), (0, (i2 + 1)), (0, x13), (0, x14), (0, r17), (0, r21)]) zr_80_111 rfl (by decide) (by omega) rfl ?_
              refine zw_42 zr_80_114 ?_
              exact zw_less (L := [(2, 55), (1, a0), (9, 0), (0, 1), (0, (i2 + 1)), (9, 0), (9, 0), (9, 0), (9, 0)]) ⟨Or.inr rfl, Or.inr rfl, Or.inl rfl, Or.inr rfl, Or.inr rfl, Or.inl rfl, Or.inl rfl, Or.inl rfl, Or.inl rfl, trivial⟩ (ihlp5_4 (1) ((i2 + 1)) m20 hIm20 hFm20   (by omega) (by omega) (by omega) (by omega) (by omega))
            · intro h25
              refine zw_4 zr_80_100 rfl ?_
              refine zw_40_1 zr_80_102 ?_ ?_
              · intro h26
                refine zw_push zr_80_109 ?_
                refine zw_9 (L' := [(2, 55), (1, a0), (9, 0), (0, 0), (0, i2), (0, x13), (0, x14), (0, r17), (0, r21)]) zr_80_110 (Nat.le_of_ble_eq_true rfl) rfl ?_
                refine zw_15 (c := 1) (L' := [(2, 55), (1, a0), (9, 0), (0, 0), (0, (i2 + 1)), (0, x13), (0, x14), (0, r17), (0, r21)]) zr_80_111 rfl (by decide) (by omega) rfl ?_
                refine zw_42 zr_80_114 ?_
                exact zw_less (L := [(2, 55), (1, a0), (9, 0), (0, 0), (0, (i2 + 1)), (9, 0), (9, 0), (9, 0), (9, 0)]) ⟨Or.inr rfl, Or.inr rfl, Or.inl rfl, Or.inr rfl, Or.inr rfl, Or.inl rfl, Or.inl rfl, Or.inl rfl, Or.inl rfl, trivial⟩ (ihlp5_4 (0) ((i2 + 1)) m20 hIm20 hFm20   (by omega) (by omega) (by omega) (by omega) (by omega))
              · intro h27
                refine zw_push zr_80_105 ?_
                refine zw_42 zr_80_106 ?_
                refine zw_9 (L' := [(2, 55), (1, a0), (9, 0), (0, 1), (0, i2), (0, x13), (0, x14), (0, r17), (0, r21)]) zr_80_110 (Nat.le_of_ble_eq_true rfl) rfl ?_
                refine zw_15 (c := 1) (L' := [(2, 55), (1, a0), (9, 0), (0, 1), (0, (i2 + 1)), (0, x13), (0, x14), (0, r17), (0, r21)]) zr_80_111 rfl (by decide) (by omega) rfl ?_
                refine zw_42 zr_80_114 ?_
                exact zw_less (L := [(2, 55), (1, a0), (9, 0), (0, 1), (0, (i2 + 1)), (9, 0), (9, 0), (9, 0), (9, 0)]) ⟨Or.inr rfl, Or.inr rfl, Or.inl rfl, Or.inr rfl, Or.inr rfl, Or.inl rfl, Or.inl rfl, Or.inl rfl, Or.inl rfl, trivial⟩ (ihlp5_4 (1) ((i2 + 1)) m20 hIm20 hFm20   (by omega) (by omega) (by omega) (by omega) (by omega))
  exact lp5_4 _ (0) (0) m0 hI0 hF0   (by omega) (by omega) (by omega) (by omega) (Nat.lt_succ_self _)
