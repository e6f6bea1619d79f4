abbrev W_168 : List (Nat × Nat) := [(69, 5), (69, 6), (69, 7), (69, 9), (69, 11), (69, 13), (69, 17), (69, 18), (73, 1000), (74, 1000), (75, 1000), (76, 1000), (77, 1000), (78, 1000)]
set_option maxHeartbeats 8000000 in
theorem th_168 {E : zE} {d : Nat} {m0 : zM} {a0 : Int} {a1 : Int} {a2 : Int} (hd : 6 ≤ d) (hI0 : zInv m0) (ha0 : (-2147483648) ≤ a0 ∧ a0 ≤ 2147483647) (ha1 : (-2147483648) ≤ a1 ∧ a1 ≤ 2147483647) (ha2 : (-2147483648) ≤ a2 ∧ a2 ≤ 2147483647) : zC E d 168 [(2, 69), (0, a0), (0, a1), (0, a2)] m0 (fun v m' => ∃ r : Int, v = (0, r) ∧ (-2147483648) ≤ r ∧ r ≤ 2147483647 ∧ zInv m' ∧ zFr W_168 m0 m') := by
  have hF0 : zFr W_168 m0 m0 := zFr.rfl
  generalize hQ : (fun (v : zV) (m' : zM) => ∃ r : Int, v = (0, r) ∧ (-2147483648) ≤ r ∧ r ≤ 2147483647 ∧ zInv m' ∧ zFr W_168 m0 m') = Q
  show zW E d 168 0 [(2, 69), (0, a0), (0, a1), (0, a2), (9, 0)] [] m0 Q
  refine zw_3 zr_168_0 rfl ?_
  refine zw_C zr_168_1 (Or.inr rfl) zm_148 rfl rfl ⟨Nat.le_of_ble_eq_true rfl, Nat.le_of_ble_eq_true rfl, Nat.le_of_ble_eq_true rfl, rfl, by decide⟩ (by omega) (P := (fun v m' => zW E (d) 168 4 [(2, 69), (0, a0), (0, a1), (0, a2), (9, 0)] (if v.1 = 9 then [] else v :: []) m' Q)) ?_ (fun _ _ h => h)
  generalize hQ1 : (fun v m' => zW E (d) 168 4 [(2, 69), (0, a0), (0, a1), (0, a2), (9, 0)] (if v.1 = 9 then [] else v :: []) m' Q) = Q1
  show zW E (d - 1) 148 0 [(0, a0)] [] m0 Q1
  refine zw_3 zr_148_0 rfl ?_
  refine zw_36 zr_148_1 ?_
  refine zw_push zr_148_2 ?_
  refine zw_push zr_148_3 ?_
  refine zw_C zr_148_6 (Or.inr rfl) zm_140 rfl rfl ⟨Nat.le_of_ble_eq_true rfl, Nat.le_of_ble_eq_true rfl, Nat.le_of_ble_eq_true rfl, rfl, by decide⟩ (by omega) (P := (fun v m' => zW E (d - 1) 148 9 [(0, a0)] (if v.1 = 9 then [] else v :: []) m' Q1)) ?_ (fun _ _ h => h)
  generalize hQ2 : (fun v m' => zW E (d - 1) 148 9 [(0, a0)] (if v.1 = 9 then [] else v :: []) m' Q1) = Q2
  show zW E (d - 1 - 1) 140 0 [(1, a0), (9, 0), (1, 0), (9, 0), (1, 3), (9, 0)] [] m0 Q2
  refine zw_5 zr_140_0 rfl ?_
  refine zw_5 zr_140_1 rfl ?_
  refine zw_39_0 zr_140_2 zr_140_3 ?_ ?_
  · intro h1
    refine zw_push zr_140_17 ?_
    refine zw_R zr_140_18 (by decide) zm_140 (v := (0, 0)) (zRetB (by omega)) ?_
    rw [← hQ2]
    show zW E (d - 1) 148 9 [(0, a0)] [(0, 0)] m0 Q1
    refine zw_R zr_148_9 (by decide) zm_148 (v := (0, 0)) (zRetB (by omega)) ?_
    rw [← hQ1]
    show zW E (d) 168 4 [(2, 69), (0, a0), (0, a1), (0, a2), (9, 0)] [(0, 0)] m0 Q
    refine zw_40_1 zr_168_4 ?_ ?_
    · intro h2
      refine zw_push zr_168_29 ?_
      refine zw_R zr_168_31 (by decide) zm_168 (v := (0, (-100000))) rfl ?_
      rw [← hQ]; exact ⟨_, rfl, by omega, by omega, hI0, hF0⟩
    · intro h3; omega
  · intro h4
    refine zw_5 zr_140_6 rfl ?_
    refine zw_6 zr_140_7 rfl ?_
    refine zw_39_2 zr_140_9 zr_140_10 ?_ ?_
    · intro h5
      refine zw_push zr_140_17 ?_
      refine zw_R zr_140_18 (by decide) zm_140 (v := (0, 0)) (zRetB (by omega)) ?_
      rw [← hQ2]
      show zW E (d - 1) 148 9 [(0, a0)] [(0, 0)] m0 Q1
      refine zw_R zr_148_9 (by decide) zm_148 (v := (0, 0)) (zRetB (by omega)) ?_
      rw [← hQ1]
      show zW E (d) 168 4 [(2, 69), (0, a0), (0, a1), (0, a2), (9, 0)] [(0, 0)] m0 Q
      refine zw_40_1 zr_168_4 ?_ ?_
      · intro h6
        refine zw_push zr_168_29 ?_
        refine zw_R zr_168_31 (by decide) zm_168 (v := (0, (-100000))) rfl ?_
        rw [← hQ]; exact ⟨_, rfl, by omega, by omega, hI0, hF0⟩
      · intro h7; omega
    · intro h8
      refine zw_push zr_140_13 ?_
      refine zw_42 zr_140_14 ?_
      refine zw_R zr_140_18 (by decide) zm_140 (v := (0, 1)) (zRetB (by omega)) ?_
      rw [← hQ2]
      show zW E (d - 1) 148 9 [(0, a0)] [(0, 1)] m0 Q1
      refine zw_R zr_148_9 (by decide) zm_148 (v := (0, 1)) (zRetB (by omega)) ?_
      rw [← hQ1]
      show zW E (d) 168 4 [(2, 69), (0, a0), (0, a1), (0, a2), (9, 0)] [(0, 1)] m0 Q
      refine zw_40_1 zr_168_4 ?_ ?_
      · intro h9; omega
      · intro h10
        refine zw_7 zr_168_7 rfl ?_
        refine zw_3 zr_168_8 rfl ?_
        refine zw_C zr_168_9 (Or.inl rfl) zm_143 rfl rfl ⟨Nat.le_of_ble_eq_true rfl, Nat.le_of_ble_eq_true rfl, Nat.le_of_ble_eq_true rfl, rfl, by decide⟩ (by omega) (P := (fun v m' => zW E (d) 168 12 [(2, 69), (0, a0), (0, a1), (0, a2), (9, 0)] (if v.1 = 9 then [] else v :: []) m' Q)) ?_ (fun _ _ h => h)
        generalize hQ1 : (fun v m' => zW E (d) 168 12 [(2, 69), (0, a0), (0, a1), (0, a2), (9, 0)] (if v.1 = 9 then [] else v :: []) m' Q) = Q1
        show zW E (d - 1) 143 0 [(2, 69), (0, a1)] [] m0 Q1
        refine zw_3 zr_143_0 rfl ?_
        refine zw_36 zr_143_1 ?_
        refine zw_push zr_143_2 ?_
        refine zw_7 zr_143_3 rfl ?_
        refine zw_C zr_143_4 (Or.inl rfl) zm_141 rfl rfl ⟨Nat.le_of_ble_eq_true rfl, Nat.le_of_ble_eq_true rfl, Nat.le_of_ble_eq_true rfl, rfl, by decide⟩ (by omega) (P := (fun v m' => zW E (d - 1) 143 7 [(2, 69), (0, a1)] (if v.1 = 9 then [(1, 0), (1, a1)] else v :: [(1, 0), (1, a1)]) m' Q1)) ?_ (fun _ _ h => h)
        generalize hQ2 : (fun v m' => zW E (d - 1) 143 7 [(2, 69), (0, a1)] (if v.1 = 9 then [(1, 0), (1, a1)] else v :: [(1, 0), (1, a1)]) m' Q1) = Q2
        show zW E (d - 1 - 1) 141 0 [(2, 69)] [] m0 Q2
        refine zw_7 zr_141_0 rfl ?_
        refine zw_46r (s := 70) zr_141_1 rfl rfl rfl rfl ?_
        refine zw_push zr_141_4 ?_
        obtain ⟨f11, ef11⟩ : ∃ v, m0 70 822 = v := ⟨_, rfl⟩
        have bf11 : 0 ≤ m0 70 822 ∧ m0 70 822 ≤ 10 := ib_70_players hI0 (by omega)
        rw [ef11] at bf11
        refine zw_48k (c := 70) (len := 826) zr_141_7 rfl rfl (by omega) (by omega) (show (822 : Int).toNat = 822 by omega) ef11 ?_
        refine zw_R zr_141_8 (by decide) zm_141 (v := (0, f11)) rfl ?_
        rw [← hQ2]
        show zW E (d - 1) 143 7 [(2, 69), (0, a1)] [(0, f11), (1, 0), (1, a1)] m0 Q1
        refine zw_push zr_143_7 ?_
        refine zw_17 zr_143_8 (by omega) ?_
        refine zw_36 zr_143_9 ?_
        refine zw_C zr_143_10 (Or.inr rfl) zm_140 rfl rfl ⟨Nat.le_of_ble_eq_true rfl, Nat.le_of_ble_eq_true rfl, Nat.le_of_ble_eq_true rfl, rfl, by decide⟩ (by omega) (P := (fun v m' => zW E (d - 1) 143 13 [(2, 69), (0, a1)] (if v.1 = 9 then [] else v :: []) m' Q1)) ?_ (fun _ _ h => h)
        generalize hQ2 : (fun v m' => zW E (d - 1) 143 13 [(2, 69), (0, a1)] (if v.1 = 9 then [] else v :: []) m' Q1) = Q2
        show zW E (d - 1 - 1) 140 0 [(1, a1), (9, 0), (1, 0), (9, 0), (1, (f11 - 1)), (9, 0)] [] m0 Q2
        refine zw_5 zr_140_0 rfl ?_
        refine zw_5 zr_140_1 rfl ?_
        refine zw_39_0 zr_140_2 zr_140_3 ?_ ?_
        · intro h12
          refine zw_push zr_140_17 ?_
          refine zw_R zr_140_18 (by decide) zm_140 (v := (0, 0)) (zRetB (by omega)) ?_
          rw [← hQ2]
          show zW E (d - 1) 143 13 [(2, 69), (0, a1)] [(0, 0)] m0 Q1
          refine zw_R zr_143_13 (by decide) zm_143 (v := (0, 0)) (zRetB (by omega)) ?_
          rw [← hQ1]
          show zW E (d) 168 12 [(2, 69), (0, a0), (0, a1), (0, a2), (9, 0)] [(0, 0)] m0 Q
          refine zw_40_1 zr_168_12 ?_ ?_
          · intro h13
            refine zw_push zr_168_29 ?_
            refine zw_R zr_168_31 (by decide) zm_168 (v := (0, (-100000))) rfl ?_
            rw [← hQ]; exact ⟨_, rfl, by omega, by omega, hI0, hF0⟩
          · intro h14; omega
        · intro h15
          refine zw_5 zr_140_6 rfl ?_
          refine zw_6 zr_140_7 rfl ?_
          refine zw_39_2 zr_140_9 zr_140_10 ?_ ?_
          · intro h16
            refine zw_push zr_140_17 ?_
            refine zw_R zr_140_18 (by decide) zm_140 (v := (0, 0)) (zRetB (by omega)) ?_
            rw [← hQ2]
            show zW E (d - 1) 143 13 [(2, 69), (0, a1)] [(0, 0)] m0 Q1
            refine zw_R zr_143_13 (by decide) zm_143 (v := (0, 0)) (zRetB (by omega)) ?_
            rw [← hQ1]
            show zW E (d) 168 12 [(2, 69), (0, a0), (0, a1), (0, a2), (9, 0)] [(0, 0)] m0 Q
            refine zw_40_1 zr_168_12 ?_ ?_
            · intro h17
              refine zw_push zr_168_29 ?_
              refine zw_R zr_168_31 (by decide) zm_168 (v := (0, (-100000))) rfl ?_
              rw [← hQ]; exact ⟨_, rfl, by omega, by omega, hI0, hF0⟩
            · intro h18; omega
          · intro h19
            refine zw_push zr_140_13 ?_
            refine zw_42 zr_140_14 ?_
            refine zw_R zr_140_18 (by decide) zm_140 (v := (0, 1)) (zRetB (by omega)) ?_
            rw [← hQ2]
            show zW E (d - 1) 143 13 [(2, 69), (0, a1)] [(0, 1)] m0 Q1
            refine zw_R zr_143_13 (by decide) zm_143 (v := (0, 1)) (zRetB (by omega)) ?_
            rw [← hQ1]
            show zW E (d) 168 12 [(2, 69), (0, a0), (0, a1), (0, a2), (9, 0)] [(0, 1)] m0 Q
            refine zw_40_1 zr_168_12 ?_ ?_
            · intro h20; omega
            · intro h21
              refine zw_3 zr_168_15 rfl ?_
              refine zw_36 zr_168_16 ?_
              refine zw_push zr_168_17 ?_
              refine zw_7 zr_168_18 rfl ?_
              refine zw_C zr_168_19 (Or.inl rfl) zm_142 rfl rfl ⟨Nat.le_of_ble_eq_true rfl, Nat.le_of_ble_eq_true rfl, Nat.le_of_ble_eq_true rfl, rfl, by decide⟩ (by omega) (P := (fun v m' => zW E (d) 168 22 [(2, 69), (0, a0), (0, a1), (0, a2), (9, 0)] (if v.1 = 9 then [(1, 0), (1, a2)] else v :: [(1, 0), (1, a2)]) m' Q)) ?_ (fun _ _ h => h)
              generalize hQ1 : (fun v m' => zW E (d) 168 22 [(2, 69), (0, a0), (0, a1), (0, a2), (9, 0)] (if v.1 = 9 then [(1, 0), (1, a2)] else v :: [(1, 0), (1, a2)]) m' Q) = Q1
              show zW E (d - 1) 142 0 [(2, 69)] [] m0 Q1
              refine zw_7 zr_142_0 rfl ?_
              refine zw_46r (s := 70) zr_142_1 rfl rfl rfl rfl ?_
              refine zw_push zr_142_4 ?_
              obtain ⟨f22, ef22⟩ : ∃ v, m0 70 823 = v := ⟨_, rfl⟩
              have bf22 : 0 ≤ m0 70 823 ∧ m0 70 823 ≤ 60 := ib_70_meetings hI0 (by omega)
              rw [ef22] at bf22
              refine zw_48k (c := 70) (len := 826) zr_142_7 rfl rfl (by omega) (by omega) (show (823 : Int).toNat = 823 by omega) ef22 ?_
              refine zw_R zr_142_8 (by decide) zm_142 (v := (0, f22)) rfl ?_
              rw [← hQ1]
              show zW E (d) 168 22 [(2, 69), (0, a0), (0, a1), (0, a2), (9, 0)] [(0, f22), (1, 0), (1, a2)] m0 Q
              refine zw_36 zr_168_22 ?_
              refine zw_C zr_168_23 (Or.inr rfl) zm_140 rfl rfl ⟨Nat.le_of_ble_eq_true rfl, Nat.le_of_ble_eq_true rfl, Nat.le_of_ble_eq_true rfl, rfl, by decide⟩ (by omega) (P := (fun v m' => zW E (d) 168 26 [(2, 69), (0, a0), (0, a1), (0, a2), (9, 0)] (if v.1 = 9 then [] else v :: []) m' Q)) ?_ (fun _ _ h => h)
              generalize hQ1 : (fun v m' => zW E (d) 168 26 [(2, 69), (0, a0), (0, a1), (0, a2), (9, 0)] (if v.1 = 9 then [] else v :: []) m' Q) = Q1
              show zW E (d - 1) 140 0 [(1, a2), (9, 0), (1, 0), (9, 0), (1, f22), (9, 0)] [] m0 Q1
              refine zw_5 zr_140_0 rfl ?_
              refine zw_5 zr_140_1 rfl ?_
              refine zw_39_0 zr_140_2 zr_140_3 ?_ ?_
              · intro h23
                refine zw_push zr_140_17 ?_
                refine zw_R zr_140_18 (by decide) zm_140 (v := (0, 0)) (zRetB (by omega)) ?_
                rw [← hQ1]
                show zW E (d) 168 26 [(2, 69), (0, a0), (0, a1), (0, a2), (9, 0)] [(0, 0)] m0 Q
                refine zw_40_4 zr_168_26 ?_ ?_
                · intro h24; omega
                · intro h25
                  refine zw_push zr_168_29 ?_
                  refine zw_R zr_168_31 (by decide) zm_168 (v := (0, (-100000))) rfl ?_
                  rw [← hQ]; exact ⟨_, rfl, by omega, by omega, hI0, hF0⟩
              · intro h26
                refine zw_5 zr_140_6 rfl ?_
                refine zw_6 zr_140_7 rfl ?_
                refine zw_39_2 zr_140_9 zr_140_10 ?_ ?_
                · intro h27
                  refine zw_push zr_140_17 ?_
                  refine zw_R zr_140_18 (by decide) zm_140 (v := (0, 0)) (zRetB (by omega)) ?_
                  rw [← hQ1]
                  show zW E (d) 168 26 [(2, 69), (0, a0), (0, a1), (0, a2), (9, 0)] [(0, 0)] m0 Q
                  refine zw_40_4 zr_168_26 ?_ ?_
                  · intro h28; omega
                  · intro h29
                    refine zw_push zr_168_29 ?_
                    refine zw_R zr_168_31 (by decide) zm_168 (v := (0, (-100000))) rfl ?_
                    rw [← hQ]; exact ⟨_, rfl, by omega, by omega, hI0, hF0⟩
                · intro h30
                  refine zw_push zr_140_13 ?_
                  refine zw_42 zr_140_14 ?_
                  refine zw_R zr_140_18 (by decide) zm_140 (v := (0, 1)) (zRetB (by omega)) ?_
                  rw [← hQ1]
                  show zW E (d) 168 26 [(2, 69), (0, a0), (0, a1), (0, a2), (9, 0)] [(0, 1)] m0 Q
                  refine zw_40_4 zr_168_26 ?_ ?_
                  · intro h31
                    refine zw_7 zr_168_32 rfl ?_
                    refine zw_3 zr_168_33 rfl ?_
                    refine zw_C zr_168_34 (Or.inl rfl) zm_164 rfl rfl ⟨Nat.le_of_ble_eq_true rfl, Nat.le_of_ble_eq_true rfl, Nat.le_of_ble_eq_true rfl, rfl, by decide⟩ (by omega) (th_164 (d := d - 1) (by omega) hI0 (a0 := a0)      (by omega) ) ?_
                    rintro _ m32 ⟨rfl, hIm32, gm32⟩
                    have hFm32 : zFr W_168 m0 m32 := hF0.trans gm32 rfl
                    have km32_70_822 : m32 70 822 = f11 := (gm32 70 822 rfl).trans ef11
                    have km32_70_823 : m32 70 823 = f22 := (gm32 70 823 rfl).trans ef22
                    show zW E (d) 168 37 [(2, 69), (0, a0), (0, a1), (0, a2), (9, 0)] [] m32 Q
                    refine zw_push zr_168_37 ?_
                    refine zw_10 (L' := [(2, 69), (0, a0), (0, a1), (0, a2), (0, 0)]) zr_168_38 (Nat.le_of_ble_eq_true rfl) rfl ?_
                    have lp40_35 : ∀ (nlp40_35 : Nat) (i33 : Int) (m34 : zM), zInv m34 → zFr W_168 m0 m34 → m34 70 822 = f11 → m34 70 823 = f22 → 0 ≤ i33 → i33 ≤ 60 → (60 - i33).toNat < nlp40_35 → zW E (d) 168 40 [(2, 69), (0, a0), (0, a1), (0, a2), (0, i33)] [] m34 Q := by
                      intro nlp40_35
                      induction nlp40_35 with
                      | zero =>
                        intros
                        exact absurd (by assumption : _ < 0) (Nat.not_lt_zero _)
                      | succ nlp40_35 ihlp40_35 =>
                        intro i33 m34 hIm34 hFm34 km34_70_822 km34_70_823 li33 ui33 hmlp40_35
                        refine zw_4 zr_168_40 rfl ?_
                        refine zw_3 zr_168_42 rfl ?_
                        refine zw_41_3 zr_168_43 ?_ ?_
                        · intro h37
                          refine zw_7 zr_168_59 rfl ?_
                          refine zw_46r (s := 76) zr_168_60 rfl rfl rfl rfl ?_
                          refine zw_3 zr_168_63 rfl ?_
                          refine zw_48 (c := 76) (len := 10) zr_168_64 rfl rfl (by omega) (by omega) ?_
                          intro x38 ex38
                          have bx38 := hIm34.ra (c := 76) (len := 10) (k := (a1).toNat) rfl (by omega)
                          rw [← ex38] at bx38
                          clear ex38
                          refine zw_R zr_168_65 (by decide) zm_168 (v := (0, x38)) rfl ?_
                          rw [← hQ]; exact ⟨_, rfl, by omega, by omega, hIm34, hFm34⟩
                        · intro h39
                          refine zw_7 zr_168_46 rfl ?_
                          refine zw_3 zr_168_47 rfl ?_
                          refine zw_4 zr_168_48 rfl ?_
                          refine zw_C zr_168_50 (Or.inl rfl) zm_166 rfl rfl ⟨Nat.le_of_ble_eq_true rfl, Nat.le_of_ble_eq_true rfl, Nat.le_of_ble_eq_true rfl, rfl, by decide⟩ (by omega) (th_166 (d := d - 1) (by omega) hIm34 (a0 := a0) (a1 := i33)      (by omega) (by omega) ) ?_
                          rintro _ m40 ⟨rfl, hIm40, gm40⟩
                          have hFm40 : zFr W_168 m0 m40 := hFm34.trans gm40 rfl
                          have km40_70_822 : m40 70 822 = f11 := (gm40 70 822 rfl).trans km34_70_822
                          have km40_70_823 : m40 70 823 = f22 := (gm40 70 823 rfl).trans km34_70_823
                          show zW E (d) 168 53 [(2, 69), (0, a0), (0, a1), (0, a2), (0, i33)] [] m40 Q
                          refine zw_15 (c := 1) (L' := [(2, 69), (0, a0), (0, a1), (0, a2), (0, (i33 + 1))]) zr_168_53 rfl (by decide) (by omega) rfl ?_
                          refine zw_42 zr_168_56 ?_
                          exact zw_less (L := [(2, 69), (0, a0), (0, a1), (0, a2), (0, (i33 + 1))]) ⟨Or.inr rfl, Or.inr rfl, Or.inr rfl, Or.inr rfl, Or.inr rfl, trivial⟩ (ihlp40_35 ((i33 + 1)) m40 hIm40 hFm40  km40_70_822 km40_70_823 (by omega) (by omega)  (by omega))
                    exact lp40_35 _ (0) m32 hIm32 hFm32  km32_70_822 km32_70_823 (by omega) (by omega)  (Nat.lt_succ_self _)
                  · intro h41; omega

abbrev W_42 : List (Nat × Nat) := [(43, 5), (44, 1000), (45, 1), (45, 5), (45, 6), (45, 7), (45, 8), (45, 9), (46, 1000), (47, 1000), (48, 1000), (49, 1000), (50, 1000), (51, 1000)]
set_option maxHeartbeats 8000000 in
theorem th_42 {E : zE} {d : Nat} {m0 : zM} {a0 : Int} {a1 : Int} (hd : 95 ≤ d) (hI0 : zInv m0) (ha0 : 0 ≤ a0 ∧ a0 ≤ 3) (ha1 : 0 ≤ a1 ∧ a1 ≤ 99) : zC E d 42 [(2, 43), (0, a0), (0, a1)] m0 (fun v m' => ∃ r : Int, v = (0, r) ∧ (-2147483648) ≤ r ∧ r ≤ 2147483647 ∧ zInv m' ∧ zFr W_42 m0 m') := by
  have hF0 : zFr W_42 m0 m0 := zFr.rfl
  generalize hQ : (fun (v : zV) (m' : zM) => ∃ r : Int, v = (0, r) ∧ (-2147483648) ≤ r ∧ r ≤ 2147483647 ∧ zInv m' ∧ zFr W_42 m0 m') = Q
  show zW E d 42 0 [(2, 43), (0, a0), (0, a1), (9, 0), (9, 0)] [] m0 Q
  refine zw_7 zr_42_0 rfl ?_
  refine zw_3 zr_42_1 rfl ?_
  refine zw_C zr_42_2 (Or.inl rfl) zm_16 rfl rfl ⟨Nat.le_of_ble_eq_true rfl, Nat.le_of_ble_eq_true rfl, Nat.le_of_ble_eq_true rfl, rfl, by decide⟩ (by omega) (th_16 (d := d - 1) (by omega) hI0 (a0 := a0)      (by omega) ) ?_
  rintro _ m1 ⟨rfl, hIm1, gm1⟩
  have hFm1 : zFr W_42 m0 m1 := hF0.trans gm1 rfl
  show zW E (d) 42 5 [(2, 43), (0, a0), (0, a1), (9, 0), (9, 0)] [] m1 Q
  refine zw_push zr_42_5 ?_
  refine zw_9 (L' := [(2, 43), (0, a0), (0, a1), (0, 0), (9, 0)]) zr_42_6 (Nat.le_of_ble_eq_true rfl) rfl ?_
  refine zw_push zr_42_7 ?_
  refine zw_10 (L' := [(2, 43), (0, a0), (0, a1), (0, 0), (0, 0)]) zr_42_8 (Nat.le_of_ble_eq_true rfl) rfl ?_
  have lp10_5 : ∀ (nlp10_5 : Nat) (i2 i3 : Int) (m4 : zM), zInv m4 → zFr W_42 m0 m4 → (-2147483648) ≤ i2 → i2 ≤ 2147483647 → 0 ≤ i3 → i3 ≤ 60 → (60 - i3).toNat < nlp10_5 → zW E (d) 42 10 [(2, 43), (0, a0), (0, a1), (0, i2), (0, i3)] [] m4 Q := by
    intro nlp10_5
    induction nlp10_5 with
    | zero =>
      intros
      exact absurd (by assumption : _ < 0) (Nat.not_lt_zero _)
    | succ nlp10_5 ihlp10_5 =>
      intro i2 i3 m4 hIm4 hFm4 li2 ui2 li3 ui3 hmlp10_5
      refine zw_4 zr_42_10 rfl ?_
      refine zw_7 zr_42_12 rfl ?_
      refine zw_46r (s := 1) zr_42_13 rfl rfl rfl rfl ?_
      obtain ⟨f7, ef7⟩ : ∃ v, m4 1 1 = v := ⟨_, rfl⟩
      have bf7 := ib_1_1 hIm4
      rw [ef7] at bf7
      refine zw_46i zr_42_16 ef7 rfl rfl rfl ?_
      refine zw_41_3 zr_42_19 ?_ ?_
      · intro h8
        refine zw_3 zr_42_55 rfl ?_
        refine zw_R zr_42_56 (by decide) zm_42 (v := (0, i2)) rfl ?_
        rw [← hQ]; exact ⟨_, rfl, by omega, by omega, hIm4, hFm4⟩
      · intro h9
        refine zw_7 zr_42_22 rfl ?_
        refine zw_4 zr_42_23 rfl ?_
        refine zw_C zr_42_25 (Or.inl rfl) zm_26 rfl rfl ⟨Nat.le_of_ble_eq_true rfl, Nat.le_of_ble_eq_true rfl, Nat.le_of_ble_eq_true rfl, rfl, by decide⟩ (by omega) (th_26 (d := d - 1) (by omega) hIm4 (a0 := i3)      (by omega) ) ?_
        rintro _ m10 ⟨rfl, hIm10, gm10⟩
        have hFm10 : zFr W_42 m0 m10 := hFm4.trans gm10 rfl
        have km10_1_1 : m10 1 1 = f7 := (gm10 1 1 rfl).trans ef7
        show zW E (d) 42 28 [(2, 43), (0, a0), (0, a1), (0, i2), (0, i3)] [] m10 Q
        refine zw_7 zr_42_28 rfl ?_
        refine zw_46r (s := 1) zr_42_29 rfl rfl rfl rfl ?_
        refine zw_46r (s := 5) zr_42_32 rfl rfl rfl rfl ?_
        refine zw_4 zr_42_35 rfl ?_
        refine zw_48 (c := 5) (len := 60) zr_42_37 rfl rfl (by omega) (by omega) ?_
        intro x11 ex11
        have bx11 := ib_5 hIm10 (k := (i3).toNat) (by omega)
        rw [← ex11] at bx11
        clear ex11
        refine zw_3 zr_42_38 rfl ?_
        refine zw_41_4 zr_42_39 ?_ ?_
        · intro h12
          refine zw_15 (c := 1) (L' := [(2, 43), (0, a0), (0, a1), (0, i2), (0, (i3 + 1))]) zr_42_49 rfl (by decide) (by omega) rfl ?_
          refine zw_42 zr_42_52 ?_
          exact zw_less (L := [(2, 43), (0, a0), (0, a1), (0, i2), (0, (i3 + 1))]) ⟨Or.inr rfl, Or.inr rfl, Or.inr rfl, Or.inr rfl, Or.inr rfl, trivial⟩ (ihlp10_5 (i2) ((i3 + 1)) m10 hIm10 hFm10   (by omega) (by omega) (by omega) (by omega)  (by omega))
        · intro h13
          refine zw_3 zr_42_42 rfl ?_
          refine zw_7 zr_42_43 rfl ?_
          obtain ⟨f14, ef14⟩ : ∃ v, m10 43 5 = v := ⟨_, rfl⟩
          have bf14 := hIm10.fi (c := 43) (k := 5) rfl
          rw [ef14] at bf14
          refine zw_46i zr_42_44 ef14 rfl rfl rfl ?_
          refine zw_16h zr_42_47 ?_
          intro x15 hx15a hx15b
          refine zw_9 (L' := [(2, 43), (0, a0), (0, a1), (0, x15), (0, i3)]) zr_42_48 (Nat.le_of_ble_eq_true rfl) rfl ?_
          refine zw_15 (c := 1) (L' := [(2, 43), (0, a0), (0, a1), (0, x15), (0, (i3 + 1))]) zr_42_49 rfl (by decide) (by omega) rfl ?_
          refine zw_42 zr_42_52 ?_
          exact zw_less (L := [(2, 43), (0, a0), (0, a1), (0, x15), (0, (i3 + 1))]) ⟨Or.inr rfl, Or.inr rfl, Or.inr rfl, Or.inr rfl, Or.inr rfl, trivial⟩ (ihlp10_5 (x15) ((i3 + 1)) m10 hIm10 hFm10   (by omega) (by omega) (by omega) (by omega)  (by omega))
  exact lp10_5 _ (0) (0) m1 hIm1 hFm1   (by omega) (by omega) (by omega) (by omega)  (Nat.lt_succ_self _)

abbrev W_110 : List (Nat × Nat) := [(43, 5), (44, 1000), (45, 1), (45, 5), (45, 6), (45, 7), (45, 8), (45, 9), (46, 1000), (47, 1000), (48, 1000), (49, 1000), (50, 1000), (51, 1000)]
set_option maxHeartbeats 8000000 in
theorem th_110 {E : zE} {d : Nat} {m0 : zM} {a0 : Int} {a1 : Int} (hd : 96 ≤ d) (hI0 : zInv m0) (ha0 : (-2147483648) ≤ a0 ∧ a0 ≤ 2147483647) (ha1 : (-2147483648) ≤ a1 ∧ a1 ≤ 2147483647) : zC E d 110 [(2, 0), (0, a0), (0, a1)] m0 (fun v m' => ∃ r : Int, v = (0, r) ∧ (-2147483648) ≤ r ∧ r ≤ 2147483647 ∧ zInv m' ∧ zFr W_110 m0 m') := by
  have hF0 : zFr W_110 m0 m0 := zFr.rfl
  generalize hQ : (fun (v : zV) (m' : zM) => ∃ r : Int, v = (0, r) ∧ (-2147483648) ≤ r ∧ r ≤ 2147483647 ∧ zInv m' ∧ zFr W_110 m0 m') = Q
  show zW E d 110 0 [(2, 0), (0, a0), (0, a1)] [] m0 Q
  refine zw_3 zr_110_0 rfl ?_
  refine zw_C zr_110_1 (Or.inr rfl) zm_104 rfl rfl ⟨Nat.le_of_ble_eq_true rfl, Nat.le_of_ble_eq_true rfl, Nat.le_of_ble_eq_true rfl, rfl, by decide⟩ (by omega) (P := (fun v m' => zW E (d) 110 4 [(2, 0), (0, a0), (0, a1)] (if v.1 = 9 then [] else v :: []) m' Q)) ?_ (fun _ _ h => h)
  generalize hQ1 : (fun v m' => zW E (d) 110 4 [(2, 0), (0, a0), (0, a1)] (if v.1 = 9 then [] else v :: []) m' Q) = Q1
  show zW E (d - 1) 104 0 [(0, a0)] [] m0 Q1
  refine zw_3 zr_104_0 rfl ?_
  refine zw_push zr_104_1 ?_
  refine zw_push zr_104_2 ?_
  refine zw_C zr_104_3 (Or.inr rfl) zm_100 rfl rfl ⟨Nat.le_of_ble_eq_true rfl, Nat.le_of_ble_eq_true rfl, Nat.le_of_ble_eq_true rfl, rfl, by decide⟩ (by omega) (P := (fun v m' => zW E (d - 1) 104 6 [(0, a0)] (if v.1 = 9 then [] else v :: []) m' Q1)) ?_ (fun _ _ h => h)
  generalize hQ2 : (fun v m' => zW E (d - 1) 104 6 [(0, a0)] (if v.1 = 9 then [] else v :: []) m' Q1) = Q2
  show zW E (d - 1 - 1) 100 0 [(0, a0), (0, 0), (0, 3)] [] m0 Q2
  refine zw_3 zr_100_0 rfl ?_
  refine zw_3 zr_100_1 rfl ?_
  refine zw_41_0 zr_100_2 ?_ ?_
  · intro h1
    refine zw_push zr_100_14 ?_
    refine zw_R zr_100_15 (by decide) zm_100 (v := (0, 0)) (zRetB (by omega)) ?_
    rw [← hQ2]
    show zW E (d - 1) 104 6 [(0, a0)] [(0, 0)] m0 Q1
    refine zw_R zr_104_6 (by decide) zm_104 (v := (0, 0)) (zRetB (by omega)) ?_
    rw [← hQ1]
    show zW E (d) 110 4 [(2, 0), (0, a0), (0, a1)] [(0, 0)] m0 Q
    refine zw_40_1 zr_110_4 ?_ ?_
    · intro h2
      refine zw_push zr_110_14 ?_
      refine zw_R zr_110_16 (by decide) zm_110 (v := (0, (-100000))) rfl ?_
      rw [← hQ]; exact ⟨_, rfl, by omega, by omega, hI0, hF0⟩
    · intro h3; omega
  · intro h4
    refine zw_3 zr_100_5 rfl ?_
    refine zw_3 zr_100_6 rfl ?_
    refine zw_41_2 zr_100_7 ?_ ?_
    · intro h5
      refine zw_push zr_100_14 ?_
      refine zw_R zr_100_15 (by decide) zm_100 (v := (0, 0)) (zRetB (by omega)) ?_
      rw [← hQ2]
      show zW E (d - 1) 104 6 [(0, a0)] [(0, 0)] m0 Q1
      refine zw_R zr_104_6 (by decide) zm_104 (v := (0, 0)) (zRetB (by omega)) ?_
      rw [← hQ1]
      show zW E (d) 110 4 [(2, 0), (0, a0), (0, a1)] [(0, 0)] m0 Q
      refine zw_40_1 zr_110_4 ?_ ?_
      · intro h6
        refine zw_push zr_110_14 ?_
        refine zw_R zr_110_16 (by decide) zm_110 (v := (0, (-100000))) rfl ?_
        rw [← hQ]; exact ⟨_, rfl, by omega, by omega, hI0, hF0⟩
      · intro h7; omega
    · intro h8
      refine zw_push zr_100_10 ?_
      refine zw_42 zr_100_11 ?_
      refine zw_R zr_100_15 (by decide) zm_100 (v := (0, 1)) (zRetB (by omega)) ?_
      rw [← hQ2]
      show zW E (d - 1) 104 6 [(0, a0)] [(0, 1)] m0 Q1
      refine zw_R zr_104_6 (by decide) zm_104 (v := (0, 1)) (zRetB (by omega)) ?_
      rw [← hQ1]
      show zW E (d) 110 4 [(2, 0), (0, a0), (0, a1)] [(0, 1)] m0 Q
      refine zw_40_1 zr_110_4 ?_ ?_
      · intro h9; omega
      · intro h10
        refine zw_3 zr_110_7 rfl ?_
        refine zw_C zr_110_8 (Or.inr rfl) zm_101 rfl rfl ⟨Nat.le_of_ble_eq_true rfl, Nat.le_of_ble_eq_true rfl, Nat.le_of_ble_eq_true rfl, rfl, by decide⟩ (by omega) (P := (fun v m' => zW E (d) 110 11 [(2, 0), (0, a0), (0, a1)] (if v.1 = 9 then [] else v :: []) m' Q)) ?_ (fun _ _ h => h)
        generalize hQ1 : (fun v m' => zW E (d) 110 11 [(2, 0), (0, a0), (0, a1)] (if v.1 = 9 then [] else v :: []) m' Q) = Q1
        show zW E (d - 1) 101 0 [(0, a1)] [] m0 Q1
        refine zw_3 zr_101_0 rfl ?_
        refine zw_push zr_101_1 ?_
        refine zw_push zr_101_2 ?_
        refine zw_C zr_101_4 (Or.inr rfl) zm_100 rfl rfl ⟨Nat.le_of_ble_eq_true rfl, Nat.le_of_ble_eq_true rfl, Nat.le_of_ble_eq_true rfl, rfl, by decide⟩ (by omega) (P := (fun v m' => zW E (d - 1) 101 7 [(0, a1)] (if v.1 = 9 then [] else v :: []) m' Q1)) ?_ (fun _ _ h => h)
        generalize hQ2 : (fun v m' => zW E (d - 1) 101 7 [(0, a1)] (if v.1 = 9 then [] else v :: []) m' Q1) = Q2
        show zW E (d - 1 - 1) 100 0 [(0, a1), (0, 0), (0, 99)] [] m0 Q2
        refine zw_3 zr_100_0 rfl ?_
        refine zw_3 zr_100_1 rfl ?_
        refine zw_41_0 zr_100_2 ?_ ?_
        · intro h11
          refine zw_push zr_100_14 ?_
          refine zw_R zr_100_15 (by decide) zm_100 (v := (0, 0)) (zRetB (by omega)) ?_
          rw [← hQ2]
          show zW E (d - 1) 101 7 [(0, a1)] [(0, 0)] m0 Q1
          refine zw_R zr_101_7 (by decide) zm_101 (v := (0, 0)) (zRetB (by omega)) ?_
          rw [← hQ1]
          show zW E (d) 110 11 [(2, 0), (0, a0), (0, a1)] [(0, 0)] m0 Q
          refine zw_40_4 zr_110_11 ?_ ?_
          · intro h12; omega
          · intro h13
            refine zw_push zr_110_14 ?_
            refine zw_R zr_110_16 (by decide) zm_110 (v := (0, (-100000))) rfl ?_
            rw [← hQ]; exact ⟨_, rfl, by omega, by omega, hI0, hF0⟩
        · intro h14
          refine zw_3 zr_100_5 rfl ?_
          refine zw_3 zr_100_6 rfl ?_
          refine zw_41_2 zr_100_7 ?_ ?_
          · intro h15
            refine zw_push zr_100_14 ?_
            refine zw_R zr_100_15 (by decide) zm_100 (v := (0, 0)) (zRetB (by omega)) ?_
            rw [← hQ2]
            show zW E (d - 1) 101 7 [(0, a1)] [(0, 0)] m0 Q1
            refine zw_R zr_101_7 (by decide) zm_101 (v := (0, 0)) (zRetB (by omega)) ?_
            rw [← hQ1]
            show zW E (d) 110 11 [(2, 0), (0, a0), (0, a1)] [(0, 0)] m0 Q
            refine zw_40_4 zr_110_11 ?_ ?_
            · intro h16; omega
            · intro h17
              refine zw_push zr_110_14 ?_
              refine zw_R zr_110_16 (by decide) zm_110 (v := (0, (-100000))) rfl ?_
              rw [← hQ]; exact ⟨_, rfl, by omega, by omega, hI0, hF0⟩
          · intro h18
            refine zw_push zr_100_10 ?_
            refine zw_42 zr_100_11 ?_
            refine zw_R zr_100_15 (by decide) zm_100 (v := (0, 1)) (zRetB (by omega)) ?_
            rw [← hQ2]
            show zW E (d - 1) 101 7 [(0, a1)] [(0, 1)] m0 Q1
            refine zw_R zr_101_7 (by decide) zm_101 (v := (0, 1)) (zRetB (by omega)) ?_
            rw [← hQ1]
            show zW E (d) 110 11 [(2, 0), (0, a0), (0, a1)] [(0, 1)] m0 Q
            refine zw_40_4 zr_110_11 ?_ ?_
            · intro h19
              refine zw_7 zr_110_17 rfl ?_
              refine zw_46r (s := 43) zr_110_18 rfl rfl rfl rfl ?_
              refine zw_3 zr_110_21 rfl ?_
              refine zw_3 zr_110_22 rfl ?_
              refine zw_C zr_110_23 (Or.inl rfl) zm_42 rfl rfl ⟨Nat.le_of_ble_eq_true rfl, Nat.le_of_ble_eq_true rfl, Nat.le_of_ble_eq_true rfl, rfl, by decide⟩ (by omega) (th_42 (d := d - 1) (by omega) hI0 (a0 := a0) (a1 := a1)      (by omega) (by omega) ) ?_
              rintro _ m20 ⟨r21, rfl, hr21a, hr21b, hIm20, gm20⟩
              have hFm20 : zFr W_110 m0 m20 := hF0.trans gm20 rfl
              show zW E (d) 110 26 [(2, 0), (0, a0), (0, a1)] [(0, r21)] m20 Q
              refine zw_R zr_110_26 (by decide) zm_110 (v := (0, r21)) rfl ?_
              rw [← hQ]; exact ⟨_, rfl, by omega, by omega, hIm20, hFm20⟩
            · intro h22; omega

abbrev W_170 : List (Nat × Nat) := [(69, 5), (69, 6), (69, 7), (69, 9), (69, 11), (69, 13), (69, 17), (69, 18), (73, 1000), (74, 1000), (75, 1000), (76, 1000), (77, 1000), (78, 1000)]
set_option maxHeartbeats 8000000 in
theorem th_170 {E : zE} {d : Nat} {m0 : zM} {a0 : Int} {a1 : Int} (hd : 6 ≤ d) (hI0 : zInv m0) (ha0 : (-2147483648) ≤ a0 ∧ a0 ≤ 2147483647) (ha1 : (-2147483648) ≤ a1 ∧ a1 ≤ 2147483647) : zC E d 170 [(2, 69), (0, a0), (0, a1)] m0 (fun v m' => ∃ r : Int, v = (0, r) ∧ (-2147483648) ≤ r ∧ r ≤ 2147483647 ∧ zInv m' ∧ zFr W_170 m0 m') := by
  have hF0 : zFr W_170 m0 m0 := zFr.rfl
  generalize hQ : (fun (v : zV) (m' : zM) => ∃ r : Int, v = (0, r) ∧ (-2147483648) ≤ r ∧ r ≤ 2147483647 ∧ zInv m' ∧ zFr W_170 m0 m') = Q
  show zW E d 170 0 [(2, 69), (0, a0), (0, a1), (9, 0), (9, 0)] [] m0 Q
  refine zw_3 zr_170_0 rfl ?_
  refine zw_C zr_170_1 (Or.inr rfl) zm_148 rfl rfl ⟨Nat.le_of_ble_eq_true rfl, Nat.le_of_ble_eq_true rfl, Nat.le_of_ble_eq_true rfl, rfl, by decide⟩ (by omega) (P := (fun v m' => zW E (d) 170 4 [(2, 69), (0, a0), (0, a1), (9, 0), (9, 0)] (if v.1 = 9 then [] else v :: []) m' Q)) ?_ (fun _ _ h => h)
  generalize hQ1 : (fun v m' => zW E (d) 170 4 [(2, 69), (0, a0), (0, a1), (9, 0), (9, 0)] (if v.1 = 9 then [] else v :: []) m' Q) = Q1
  show zW E (d - 1) 148 0 [(0, a0)] [] m0 Q1
  refine zw_3 zr_148_0 rfl ?_
  refine zw_36 zr_148_1 ?_
  refine zw_push zr_148_2 ?_
  refine zw_push zr_148_3 ?_
  refine zw_C zr_148_6 (Or.inr rfl) zm_140 rfl rfl ⟨Nat.le_of_ble_eq_true rfl, Nat.le_of_ble_eq_true rfl, Nat.le_of_ble_eq_true rfl, rfl, by decide⟩ (by omega) (P := (fun v m' => zW E (d - 1) 148 9 [(0, a0)] (if v.1 = 9 then [] else v :: []) m' Q1)) ?_ (fun _ _ h => h)
  generalize hQ2 : (fun v m' => zW E (d - 1) 148 9 [(0, a0)] (if v.1 = 9 then [] else v :: []) m' Q1) = Q2
  show zW E (d - 1 - 1) 140 0 [(1, a0), (9, 0), (1, 0), (9, 0), (1, 3), (9, 0)] [] m0 Q2
  refine zw_5 zr_140_0 rfl ?_
  refine zw_5 zr_140_1 rfl ?_
  refine zw_39_0 zr_140_2 zr_140_3 ?_ ?_
  · intro h1
    refine zw_push zr_140_17 ?_
    refine zw_R zr_140_18 (by decide) zm_140 (v := (0, 0)) (zRetB (by omega)) ?_
    rw [← hQ2]
    show zW E (d - 1) 148 9 [(0, a0)] [(0, 0)] m0 Q1
    refine zw_R zr_148_9 (by decide) zm_148 (v := (0, 0)) (zRetB (by omega)) ?_
    rw [← hQ1]
    show zW E (d) 170 4 [(2, 69), (0, a0), (0, a1), (9, 0), (9, 0)] [(0, 0)] m0 Q
    refine zw_40_1 zr_170_4 ?_ ?_
    · intro h2
      refine zw_push zr_170_14 ?_
      refine zw_R zr_170_16 (by decide) zm_170 (v := (0, (-100000))) rfl ?_
      rw [← hQ]; exact ⟨_, rfl, by omega, by omega, hI0, hF0⟩
    · intro h3; omega
  · intro h4
    refine zw_5 zr_140_6 rfl ?_
    refine zw_6 zr_140_7 rfl ?_
    refine zw_39_2 zr_140_9 zr_140_10 ?_ ?_
    · intro h5
      refine zw_push zr_140_17 ?_
      refine zw_R zr_140_18 (by decide) zm_140 (v := (0, 0)) (zRetB (by omega)) ?_
      rw [← hQ2]
      show zW E (d - 1) 148 9 [(0, a0)] [(0, 0)] m0 Q1
      refine zw_R zr_148_9 (by decide) zm_148 (v := (0, 0)) (zRetB (by omega)) ?_
      rw [← hQ1]
      show zW E (d) 170 4 [(2, 69), (0, a0), (0, a1), (9, 0), (9, 0)] [(0, 0)] m0 Q
      refine zw_40_1 zr_170_4 ?_ ?_
      · intro h6
        refine zw_push zr_170_14 ?_
        refine zw_R zr_170_16 (by decide) zm_170 (v := (0, (-100000))) rfl ?_
        rw [← hQ]; exact ⟨_, rfl, by omega, by omega, hI0, hF0⟩
      · intro h7; omega
    · intro h8
      refine zw_push zr_140_13 ?_
      refine zw_42 zr_140_14 ?_
      refine zw_R zr_140_18 (by decide) zm_140 (v := (0, 1)) (zRetB (by omega)) ?_
      rw [← hQ2]
      show zW E (d - 1) 148 9 [(0, a0)] [(0, 1)] m0 Q1
      refine zw_R zr_148_9 (by decide) zm_148 (v := (0, 1)) (zRetB (by omega)) ?_
      rw [← hQ1]
      show zW E (d) 170 4 [(2, 69), (0, a0), (0, a1), (9, 0), (9, 0)] [(0, 1)] m0 Q
      refine zw_40_1 zr_170_4 ?_ ?_
      · intro h9; omega
      · intro h10
        refine zw_3 zr_170_7 rfl ?_
        refine zw_C zr_170_8 (Or.inr rfl) zm_169 rfl rfl ⟨Nat.le_of_ble_eq_true rfl, Nat.le_of_ble_eq_true rfl, Nat.le_of_ble_eq_true rfl, rfl, by decide⟩ (by omega) (P := (fun v m' => zW E (d) 170 11 [(2, 69), (0, a0), (0, a1), (9, 0), (9, 0)] (if v.1 = 9 then [] else v :: []) m' Q)) ?_ (fun _ _ h => h)
        generalize hQ1 : (fun v m' => zW E (d) 170 11 [(2, 69), (0, a0), (0, a1), (9, 0), (9, 0)] (if v.1 = 9 then [] else v :: []) m' Q) = Q1
        show zW E (d - 1) 169 0 [(0, a1)] [] m0 Q1
        refine zw_3 zr_169_0 rfl ?_
        refine zw_36 zr_169_1 ?_
        refine zw_push zr_169_2 ?_
        refine zw_push zr_169_3 ?_
        refine zw_C zr_169_6 (Or.inr rfl) zm_140 rfl rfl ⟨Nat.le_of_ble_eq_true rfl, Nat.le_of_ble_eq_true rfl, Nat.le_of_ble_eq_true rfl, rfl, by decide⟩ (by omega) (P := (fun v m' => zW E (d - 1) 169 9 [(0, a1)] (if v.1 = 9 then [] else v :: []) m' Q1)) ?_ (fun _ _ h => h)
        generalize hQ2 : (fun v m' => zW E (d - 1) 169 9 [(0, a1)] (if v.1 = 9 then [] else v :: []) m' Q1) = Q2
        show zW E (d - 1 - 1) 140 0 [(1, a1), (9, 0), (1, 0), (9, 0), (1, 99), (9, 0)] [] m0 Q2
        refine zw_5 zr_140_0 rfl ?_
        refine zw_5 zr_140_1 rfl ?_
        refine zw_39_0 zr_140_2 zr_140_3 ?_ ?_
        · intro h11
          refine zw_push zr_140_17 ?_
          refine zw_R zr_140_18 (by decide) zm_140 (v := (0, 0)) (zRetB (by omega)) ?_
          rw [← hQ2]
          show zW E (d - 1) 169 9 [(0, a1)] [(0, 0)] m0 Q1
          refine zw_R zr_169_9 (by decide) zm_169 (v := (0, 0)) (zRetB (by omega)) ?_
          rw [← hQ1]
          show zW E (d) 170 11 [(2, 69), (0, a0), (0, a1), (9, 0), (9, 0)] [(0, 0)] m0 Q
          refine zw_40_4 zr_170_11 ?_ ?_
          · intro h12; omega
          · intro h13
            refine zw_push zr_170_14 ?_
            refine zw_R zr_170_16 (by decide) zm_170 (v := (0, (-100000))) rfl ?_
            rw [← hQ]; exact ⟨_, rfl, by omega, by omega, hI0, hF0⟩
        · intro h14
          refine zw_5 zr_140_6 rfl ?_
          refine zw_6 zr_140_7 rfl ?_
          refine zw_39_2 zr_140_9 zr_140_10 ?_ ?_
          · intro h15
            refine zw_push zr_140_17 ?_
            refine zw_R zr_140_18 (by decide) zm_140 (v := (0, 0)) (zRetB (by omega)) ?_
            rw [← hQ2]
            show zW E (d - 1) 169 9 [(0, a1)] [(0, 0)] m0 Q1
            refine zw_R zr_169_9 (by decide) zm_169 (v := (0, 0)) (zRetB (by omega)) ?_
            rw [← hQ1]
            show zW E (d) 170 11 [(2, 69), (0, a0), (0, a1), (9, 0), (9, 0)] [(0, 0)] m0 Q
            refine zw_40_4 zr_170_11 ?_ ?_
            · intro h16; omega
            · intro h17
              refine zw_push zr_170_14 ?_
              refine zw_R zr_170_16 (by decide) zm_170 (v := (0, (-100000))) rfl ?_
              rw [← hQ]; exact ⟨_, rfl, by omega, by omega, hI0, hF0⟩
          · intro h18
            refine zw_push zr_140_13 ?_
            refine zw_42 zr_140_14 ?_
            refine zw_R zr_140_18 (by decide) zm_140 (v := (0, 1)) (zRetB (by omega)) ?_
            rw [← hQ2]
            show zW E (d - 1) 169 9 [(0, a1)] [(0, 1)] m0 Q1
            refine zw_R zr_169_9 (by decide) zm_169 (v := (0, 1)) (zRetB (by omega)) ?_
            rw [← hQ1]
            show zW E (d) 170 11 [(2, 69), (0, a0), (0, a1), (9, 0), (9, 0)] [(0, 1)] m0 Q
            refine zw_40_4 zr_170_11 ?_ ?_
            · intro h19
              refine zw_7 zr_170_17 rfl ?_
              refine zw_3 zr_170_18 rfl ?_
              refine zw_C zr_170_19 (Or.inl rfl) zm_164 rfl rfl ⟨Nat.le_of_ble_eq_true rfl, Nat.le_of_ble_eq_true rfl, Nat.le_of_ble_eq_true rfl, rfl, by decide⟩ (by omega) (th_164 (d := d - 1) (by omega) hI0 (a0 := a0)      (by omega) ) ?_
              rintro _ m20 ⟨rfl, hIm20, gm20⟩
              have hFm20 : zFr W_170 m0 m20 := hF0.trans gm20 rfl
              show zW E (d) 170 22 [(2, 69), (0, a0), (0, a1), (9, 0), (9, 0)] [] m20 Q
              refine zw_push zr_170_22 ?_
              refine zw_9 (L' := [(2, 69), (0, a0), (0, a1), (0, 0), (9, 0)]) zr_170_23 (Nat.le_of_ble_eq_true rfl) rfl ?_
              refine zw_push zr_170_24 ?_
              refine zw_10 (L' := [(2, 69), (0, a0), (0, a1), (0, 0), (0, 0)]) zr_170_25 (Nat.le_of_ble_eq_true rfl) rfl ?_
              have lp27_24 : ∀ (nlp27_24 : Nat) (i21 i22 : Int) (m23 : zM), zInv m23 → zFr W_170 m0 m23 → (-2147483648) ≤ i21 → i21 ≤ 2147483647 → 0 ≤ i22 → i22 ≤ 60 → (60 - i22).toNat < nlp27_24 → zW E (d) 170 27 [(2, 69), (0, a0), (0, a1), (0, i21), (0, i22)] [] m23 Q := by
                intro nlp27_24
                induction nlp27_24 with
                | zero =>
                  intros
                  exact absurd (by assumption : _ < 0) (Nat.not_lt_zero _)
                | succ nlp27_24 ihlp27_24 =>
                  intro i21 i22 m23 hIm23 hFm23 li21 ui21 li22 ui22 hmlp27_24
                  refine zw_4 zr_170_27 rfl ?_
                  refine zw_7 zr_170_29 rfl ?_
                  refine zw_C zr_170_30 (Or.inl rfl) zm_142 rfl rfl ⟨Nat.le_of_ble_eq_true rfl, Nat.le_of_ble_eq_true rfl, Nat.le_of_ble_eq_true rfl, rfl, by decide⟩ (by omega) (P := (fun v m' => zW E (d) 170 33 [(2, 69), (0, a0), (0, a1), (0, i21), (0, i22)] (if v.1 = 9 then [(0, i22)] else v :: [(0, i22)]) m' Q)) ?_ (fun _ _ h => h)
                  generalize hQ1 : (fun v m' => zW E (d) 170 33 [(2, 69), (0, a0), (0, a1), (0, i21), (0, i22)] (if v.1 = 9 then [(0, i22)] else v :: [(0, i22)]) m' Q) = Q1
                  show zW E (d - 1) 142 0 [(2, 69)] [] m23 Q1
                  refine zw_7 zr_142_0 rfl ?_
                  refine zw_46r (s := 70) zr_142_1 rfl rfl rfl rfl ?_
                  refine zw_push zr_142_4 ?_
                  obtain ⟨f26, ef26⟩ : ∃ v, m23 70 823 = v := ⟨_, rfl⟩
                  have bf26 : 0 ≤ m23 70 823 ∧ m23 70 823 ≤ 60 := ib_70_meetings hIm23 (by omega)
                  rw [ef26] at bf26
                  refine zw_48k (c := 70) (len := 826) zr_142_7 rfl rfl (by omega) (by omega) (show (823 : Int).toNat = 823 by omega) ef26 ?_
                  refine zw_R zr_142_8 (by decide) zm_142 (v := (0, f26)) rfl ?_
                  rw [← hQ1]
                  show zW E (d) 170 33 [(2, 69), (0, a0), (0, a1), (0, i21), (0, i22)] [(0, f26), (0, i22)] m23 Q
                  refine zw_41_3 zr_170_33 ?_ ?_
                  · intro h27
                    refine zw_3 zr_170_76 rfl ?_
                    refine zw_R zr_170_77 (by decide) zm_170 (v := (0, i21)) rfl ?_
                    rw [← hQ]; exact ⟨_, rfl, by omega, by omega, hIm23, hFm23⟩
                  · intro h28
                    refine zw_7 zr_170_36 rfl ?_
                    refine zw_3 zr_170_37 rfl ?_
                    refine zw_4 zr_170_38 rfl ?_
                    refine zw_C zr_170_40 (Or.inl rfl) zm_166 rfl rfl ⟨Nat.le_of_ble_eq_true rfl, Nat.le_of_ble_eq_true rfl, Nat.le_of_ble_eq_true rfl, rfl, by decide⟩ (by omega) (th_166 (d := d - 1) (by omega) hIm23 (a0 := a0) (a1 := i22)      (by omega) (by omega) ) ?_
                    rintro _ m29 ⟨rfl, hIm29, gm29⟩
                    have hFm29 : zFr W_170 m0 m29 := hFm23.trans gm29 rfl
                    have km29_70_823 : m29 70 823 = f26 := (gm29 70 823 rfl).trans ef26
                    show zW E (d) 170 43 [(2, 69), (0, a0), (0, a1), (0, i21), (0, i22)] [] m29 Q
                    refine zw_3 zr_170_43 rfl ?_
                    refine zw_7 zr_170_44 rfl ?_
                    refine zw_4 zr_170_45 rfl ?_
                    refine zw_push zr_170_47 ?_
                    refine zw_C zr_170_48 (Or.inl rfl) zm_144 rfl rfl ⟨Nat.le_of_ble_eq_true rfl, Nat.le_of_ble_eq_true rfl, Nat.le_of_ble_eq_true rfl, rfl, by decide⟩ (by omega) (P := (fun v m' => zW E (d) 170 51 [(2, 69), (0, a0), (0, a1), (0, i21), (0, i22)] (if v.1 = 9 then [(0, i21)] else v :: [(0, i21)]) m' Q)) ?_ (fun _ _ h => h)
                    generalize hQ1 : (fun v m' => zW E (d) 170 51 [(2, 69), (0, a0), (0, a1), (0, i21), (0, i22)] (if v.1 = 9 then [(0, i21)] else v :: [(0, i21)]) m' Q) = Q1
                    show zW E (d - 1) 144 0 [(2, 69), (0, i22), (0, 0)] [] m29 Q1
                    refine zw_7 zr_144_0 rfl ?_
                    refine zw_46r (s := 70) zr_144_1 rfl rfl rfl rfl ?_
                    refine zw_push zr_144_4 ?_
                    refine zw_push zr_144_6 ?_
                    refine zw_3 zr_144_8 rfl ?_
                    refine zw_18 zr_144_9 (by omega) ?_
                    refine zw_16 zr_144_10 (by omega) ?_
                    refine zw_3 zr_144_11 rfl ?_
                    refine zw_16 zr_144_12 (by omega) ?_
                    refine zw_48 (c := 70) (len := 826) zr_144_13 rfl rfl (by omega) (by omega) ?_
                    intro x30 ex30
                    have bx30 := ib_70_m0 hIm29 (k := (((90 + (6 * i22)) + 0)).toNat) (by omega)
                    rw [← ex30] at bx30
                    clear ex30
                    refine zw_R zr_144_14 (by decide) zm_144 (v := (0, x30)) rfl ?_
                    rw [← hQ1]
                    show zW E (d) 170 51 [(2, 69), (0, a0), (0, a1), (0, i21), (0, i22)] [(0, x30), (0, i21)] m29 Q
                    refine zw_3 zr_170_51 rfl ?_
                    refine zw_41_4 zr_170_52 ?_ ?_
                    · intro h31
                      refine zw_push zr_170_67 ?_
                      refine zw_16 zr_170_68 (by omega) ?_
                      refine zw_9 (L' := [(2, 69), (0, a0), (0, a1), (0, (i21 + 0)), (0, i22)]) zr_170_69 (Nat.le_of_ble_eq_true rfl) rfl ?_
                      refine zw_15 (c := 1) (L' := [(2, 69), (0, a0), (0, a1), (0, (i21 + 0)), (0, (i22 + 1))]) zr_170_70 rfl (by decide) (by omega) rfl ?_
                      refine zw_42 zr_170_73 ?_
                      exact zw_less (L := [(2, 69), (0, a0), (0, a1), (0, (i21 + 0)), (0, (i22 + 1))]) ⟨Or.inr rfl, Or.inr rfl, Or.inr rfl, Or.inr rfl, Or.inr rfl, trivial⟩ (ihlp27_24 ((i21 + 0)) ((i22 + 1)) m29 hIm29 hFm29   (by omega) (by omega) (by omega) (by omega)  (by omega))
                    · intro h32
                      refine zw_7 zr_170_55 rfl ?_
                      obtain ⟨f33, ef33⟩ : ∃ v, m29 69 17 = v := ⟨_, rfl⟩
                      have bf33 := hIm29.fi (c := 69) (k := 17) rfl
                      rw [ef33] at bf33
                      refine zw_46i zr_170_56 ef33 rfl rfl rfl ?_
                      refine zw_7 zr_170_59 rfl ?_
                      obtain ⟨f34, ef34⟩ : ∃ v, m29 69 18 = v := ⟨_, rfl⟩
                      have bf34 := hIm29.fi (c := 69) (k := 18) rfl
                      rw [ef34] at bf34
                      refine zw_46i zr_170_60 ef34 rfl rfl rfl ?_
                      refine zw_16h zr_170_63 ?_
                      intro x35 hx35a hx35b
                      refine zw_42 zr_170_64 ?_
                      refine zw_16h zr_170_68 ?_
                      intro x36 hx36a hx36b
                      refine zw_9 (L' := [(2, 69), (0, a0), (0, a1), (0, x36), (0, i22)]) zr_170_69 (Nat.le_of_ble_eq_true rfl) rfl ?_
                      refine zw_15 (c := 1) (L' := [(2, 69), (0, a0), (0, a1), (0, x36), (0, (i22 + 1))]) zr_170_70 rfl (by decide) (by omega) rfl ?_
                      refine zw_42 zr_170_73 ?_
                      exact zw_less (L := [(2, 69), (0, a0), (0, a1), (0, x36), (0, (i22 + 1))]) ⟨Or.inr rfl, Or.inr rfl, Or.inr rfl, Or.inr rfl, Or.inr rfl, trivial⟩ (ihlp27_24 (x36) ((i22 + 1)) m29 hIm29 hFm29   (by omega) (by omega) (by omega) (by omega)  (by omega))
              exact lp27_24 _ (0) (0) m20 hIm20 hFm20   (by omega) (by omega) (by omega) (by omega)  (Nat.lt_succ_self _)
            · intro h37; omega

set_option maxHeartbeats 8000000 in
theorem th_55 {E : zE} {d : Nat} {m0 : zM} {a0 : Int} (hd : 2 ≤ d) (hI0 : zInv m0) (ha0 : 0 ≤ a0 ∧ a0 ≤ 99) : zC E d 55 [(2, 1), (0, a0)] m0 (fun v m' => ∃ r : Int, v = (0, r) ∧ (-2147483648) ≤ r ∧ r ≤ 2147483647 ∧ m0 = m') := by
  generalize hQ : (fun (v : zV) (m' : zM) => ∃ r : Int, v = (0, r) ∧ (-2147483648) ≤ r ∧ r ≤ 2147483647 ∧ m0 = m') = Q
  show zW E d 55 0 [(2, 1), (0, a0), (9, 0), (9, 0)] [] m0 Q
  refine zw_push zr_55_0 ?_
  refine zw_9 (L' := [(2, 1), (0, a0), (0, 0), (9, 0)]) zr_55_1 (Nat.le_of_ble_eq_true rfl) rfl ?_
  refine zw_push zr_55_2 ?_
  refine zw_9 (L' := [(2, 1), (0, a0), (0, 0), (0, 0)]) zr_55_3 (Nat.le_of_ble_eq_true rfl) rfl ?_
  have lp4_3 : ∀ (nlp4_3 : Nat) (i1 i2 : Int), (-2147483648) ≤ i1 → i1 ≤ 2147483647 → 0 ≤ i2 → i2 ≤ 60 → (60 - i2).toNat < nlp4_3 → zW E (d) 55 4 [(2, 1), (0, a0), (0, i1), (0, i2)] [] m0 Q := by
    intro nlp4_3
    induction nlp4_3 with
    | zero =>
      intros
      exact absurd (by assumption : _ < 0) (Nat.not_lt_zero _)
    | succ nlp4_3 ihlp4_3 =>
      intro i1 i2 li1 ui1 li2 ui2 hmlp4_3
      refine zw_3 zr_55_4 rfl ?_
      refine zw_7 zr_55_5 rfl ?_
      obtain ⟨f5, ef5⟩ : ∃ v, m0 1 1 = v := ⟨_, rfl⟩
      have bf5 := ib_1_1 hI0
      rw [ef5] at bf5
      refine zw_46i zr_55_6 ef5 rfl rfl rfl ?_
      refine zw_41_3 zr_55_9 ?_ ?_
      · intro h6
        refine zw_3 zr_55_36 rfl ?_
        refine zw_R zr_55_37 (by decide) zm_55 (v := (0, i1)) rfl ?_
        rw [← hQ]; exact ⟨_, rfl, by omega, by omega, rfl⟩
      · intro h7
        refine zw_7 zr_55_12 rfl ?_
        refine zw_46r (s := 5) zr_55_13 rfl rfl rfl rfl ?_
        refine zw_3 zr_55_16 rfl ?_
        refine zw_48 (c := 5) (len := 60) zr_55_17 rfl rfl (by omega) (by omega) ?_
        intro x8 ex8
        have bx8 := ib_5 hI0 (k := (i2).toNat) (by omega)
        rw [← ex8] at bx8
        clear ex8
        refine zw_3 zr_55_18 rfl ?_
        refine zw_41_4 zr_55_19 ?_ ?_
        · intro h9
          refine zw_15 (c := 1) (L' := [(2, 1), (0, a0), (0, i1), (0, (i2 + 1))]) zr_55_30 rfl (by decide) (by omega) rfl ?_
          refine zw_42 zr_55_33 ?_
          exact zw_less (L := [(2, 1), (0, a0), (0, i1), (0, (i2 + 1))]) ⟨Or.inr rfl, Or.inr rfl, Or.inr rfl, Or.inr rfl, trivial⟩ (ihlp4_3 (i1) ((i2 + 1))  (by omega) (by omega) (by omega) (by omega)  (by omega))
        · intro h10
          refine zw_3 zr_55_22 rfl ?_
          refine zw_7 zr_55_23 rfl ?_
          refine zw_3 zr_55_24 rfl ?_
          refine zw_C zr_55_25 (Or.inl rfl) zm_27 rfl rfl ⟨Nat.le_of_ble_eq_true rfl, Nat.le_of_ble_eq_true rfl, Nat.le_of_ble_eq_true rfl, rfl, by decide⟩ (by omega) (P := (fun v m' => zW E (d) 55 28 [(2, 1), (0, a0), (0, i1), (0, i2)] (if v.1 = 9 then [(0, i1)] else v :: [(0, i1)]) m' Q)) ?_ (fun _ _ h => h)
          generalize hQ1 : (fun v m' => zW E (d) 55 28 [(2, 1), (0, a0), (0, i1), (0, i2)] (if v.1 = 9 then [(0, i1)] else v :: [(0, i1)]) m' Q) = Q1
          show zW E (d - 1) 27 0 [(2, 1), (0, i2)] [] m0 Q1
          refine zw_push zr_27_0 ?_
          refine zw_7 zr_27_1 rfl ?_
          refine zw_46r (s := 6) zr_27_2 rfl rfl rfl rfl ?_
          refine zw_3 zr_27_5 rfl ?_
          refine zw_48 (c := 6) (len := 60) zr_27_6 rfl rfl (by omega) (by omega) ?_
          intro x11 ex11
          have bx11 := ib_6 hI0 (k := (i2).toNat) (by omega)
          rw [← ex11] at bx11
          clear ex11
          refine zw_24h zr_27_7 ?_
          intro x12 hx12a hx12b
          refine zw_push zr_27_8 ?_
          refine zw_7 zr_27_9 rfl ?_
          refine zw_46r (s := 7) zr_27_10 rfl rfl rfl rfl ?_
          refine zw_3 zr_27_13 rfl ?_
          refine zw_48 (c := 7) (len := 60) zr_27_14 rfl rfl (by omega) (by omega) ?_
          intro x13 ex13
          have bx13 := ib_7 hI0 (k := (i2).toNat) (by omega)
          rw [← ex13] at bx13
          clear ex13
          refine zw_24h zr_27_15 ?_
          intro x14 hx14a hx14b
          refine zw_22h zr_27_16 ?_
          intro x15 hx15a hx15b
          refine zw_R zr_27_17 (by decide) zm_27 (v := (0, x15)) rfl ?_
          rw [← hQ1]
          show zW E (d) 55 28 [(2, 1), (0, a0), (0, i1), (0, i2)] [(0, x15), (0, i1)] m0 Q
          refine zw_22h zr_55_28 ?_
          intro x16 hx16a hx16b
          refine zw_9 (L' := [(2, 1), (0, a0), (0, x16), (0, i2)]) zr_55_29 (Nat.le_of_ble_eq_true rfl) rfl ?_
          refine zw_15 (c := 1) (L' := [(2, 1), (0, a0), (0, x16), (0, (i2 + 1))]) zr_55_30 rfl (by decide) (by omega) rfl ?_
          refine zw_42 zr_55_33 ?_
          exact zw_less (L := [(2, 1), (0, a0), (0, x16), (0, (i2 + 1))]) ⟨Or.inr rfl, Or.inr rfl, Or.inr rfl, Or.inr rfl, trivial⟩ (ihlp4_3 (x16) ((i2 + 1))  (by omega) (by omega) (by omega) (by omega)  (by omega))
  exact lp4_3 _ (0) (0)  (by omega) (by omega) (by omega) (by omega)  (Nat.lt_succ_self _)

set_option maxHeartbeats 8000000 in
theorem th_30 {E : zE} {d : Nat} {m0 : zM} {a0 : Int} (hd : 1 ≤ d) (hI0 : zInv m0) (ha0 : (-2147483648) ≤ a0 ∧ a0 ≤ 2147483647) : zC E d 30 [(2, 43), (0, a0)] m0 (fun v m' => ∃ r : Int, v = (0, r) ∧ (-2147483648) ≤ r ∧ r ≤ 2147483647 ∧ m0 = m') := by
  generalize hQ : (fun (v : zV) (m' : zM) => ∃ r : Int, v = (0, r) ∧ (-2147483648) ≤ r ∧ r ≤ 2147483647 ∧ m0 = m') = Q
  show zW E d 30 0 [(2, 43), (0, a0), (9, 0), (9, 0)] [] m0 Q
  refine zw_push zr_30_0 ?_
  refine zw_9 (L' := [(2, 43), (0, a0), (0, 0), (9, 0)]) zr_30_1 (Nat.le_of_ble_eq_true rfl) rfl ?_
  refine zw_push zr_30_2 ?_
  refine zw_9 (L' := [(2, 43), (0, a0), (0, 0), (0, 0)]) zr_30_3 (Nat.le_of_ble_eq_true rfl) rfl ?_
  have lp4_3 : ∀ (nlp4_3 : Nat) (i1 i2 : Int), (-2147483648) ≤ i1 → i1 ≤ 2147483647 → 0 ≤ i2 → i2 ≤ 10 → (10 - i2).toNat < nlp4_3 → zW E (d) 30 4 [(2, 43), (0, a0), (0, i1), (0, i2)] [] m0 Q := by
    intro nlp4_3
    induction nlp4_3 with
    | zero =>
      intros
      exact absurd (by assumption : _ < 0) (Nat.not_lt_zero _)
    | succ nlp4_3 ihlp4_3 =>
      intro i1 i2 li1 ui1 li2 ui2 hmlp4_3
      refine zw_3 zr_30_4 rfl ?_
      refine zw_7 zr_30_5 rfl ?_
      refine zw_46r (s := 1) zr_30_6 rfl rfl rfl rfl ?_
      obtain ⟨f5, ef5⟩ : ∃ v, m0 1 0 = v := ⟨_, rfl⟩
      have bf5 := ib_1_0 hI0
      rw [ef5] at bf5
      refine zw_46i zr_30_9 ef5 rfl rfl rfl ?_
      refine zw_41_3 zr_30_12 ?_ ?_
      · intro h6
        refine zw_3 zr_30_38 rfl ?_
        refine zw_R zr_30_39 (by decide) zm_30 (v := (0, i1)) rfl ?_
        rw [← hQ]; exact ⟨_, rfl, by omega, by omega, rfl⟩
      · intro h7
        refine zw_3 zr_30_15 rfl ?_
        refine zw_3 zr_30_16 rfl ?_
        refine zw_25h zr_30_17 ?_
        intro x8 hx8a hx8b
        refine zw_push zr_30_18 ?_
        refine zw_21m zr_30_19 (by omega) (by omega) ?_
        intro x9 hx9a hx9b
        refine zw_40_1 zr_30_20 ?_ ?_
        · intro h10
          refine zw_15 (c := 1) (L' := [(2, 43), (0, a0), (0, i1), (0, (i2 + 1))]) zr_30_32 rfl (by decide) (by omega) rfl ?_
          refine zw_42 zr_30_35 ?_
          exact zw_less (L := [(2, 43), (0, a0), (0, i1), (0, (i2 + 1))]) ⟨Or.inr rfl, Or.inr rfl, Or.inr rfl, Or.inr rfl, trivial⟩ (ihlp4_3 (i1) ((i2 + 1))  (by omega) (by omega) (by omega) (by omega)  (by omega))
        · intro h11
          refine zw_3 zr_30_23 rfl ?_
          refine zw_7 zr_30_24 rfl ?_
          refine zw_46r (s := 44) zr_30_25 rfl rfl rfl rfl ?_
          refine zw_3 zr_30_28 rfl ?_
          refine zw_48 (c := 44) (len := 10) zr_30_29 rfl rfl (by omega) (by omega) ?_
          intro x12 ex12
          have bx12 := hI0.ra (c := 44) (len := 10) (k := (i2).toNat) rfl (by omega)
          rw [← ex12] at bx12
          clear ex12
          refine zw_16h zr_30_30 ?_
          intro x13 hx13a hx13b
          refine zw_9 (L' := [(2, 43), (0, a0), (0, x13), (0, i2)]) zr_30_31 (Nat.le_of_ble_eq_true rfl) rfl ?_
          refine zw_15 (c := 1) (L' := [(2, 43), (0, a0), (0, x13), (0, (i2 + 1))]) zr_30_32 rfl (by decide) (by omega) rfl ?_
          refine zw_42 zr_30_35 ?_
          exact zw_less (L := [(2, 43), (0, a0), (0, x13), (0, (i2 + 1))]) ⟨Or.inr rfl, Or.inr rfl, Or.inr rfl, Or.inr rfl, trivial⟩ (ihlp4_3 (x13) ((i2 + 1))  (by omega) (by omega) (by omega) (by omega)  (by omega))
  exact lp4_3 _ (0) (0)  (by omega) (by omega) (by omega) (by omega)  (Nat.lt_succ_self _)

abbrev W_43 : List (Nat × Nat) := [(43, 5), (44, 1000), (45, 1), (45, 5), (45, 6), (45, 7), (45, 8), (45, 9), (46, 1000), (47, 1000), (48, 1000), (49, 1000), (50, 1000), (51, 1000)]
set_option maxHeartbeats 8000000 in
theorem th_43 {E : zE} {d : Nat} {m0 : zM} {a0 : Int} {a1 : Int} {a2 : Int} {a3 : Int} (hd : 95 ≤ d) (hI0 : zInv m0) (ha0 : 0 ≤ a0 ∧ a0 ≤ 3) (ha1 : 0 ≤ a1 ∧ a1 ≤ 98) (ha2 : 1 ≤ a2 ∧ a2 ≤ 99) (ha3 : (-2147483648) ≤ a3 ∧ a3 ≤ 2147483647) : zC E d 43 [(2, 43), (0, a0), (0, a1), (0, a2), (0, a3)] m0 (fun v m' => ∃ r : Int, v = (0, r) ∧ (-2147483648) ≤ r ∧ r ≤ 2147483647 ∧ zInv m' ∧ zFr W_43 m0 m') := by
  have hF0 : zFr W_43 m0 m0 := zFr.rfl
  generalize hQ : (fun (v : zV) (m' : zM) => ∃ r : Int, v = (0, r) ∧ (-2147483648) ≤ r ∧ r ≤ 2147483647 ∧ zInv m' ∧ zFr W_43 m0 m') = Q
  show zW E d 43 0 [(2, 43), (0, a0), (0, a1), (0, a2), (0, a3), (9, 0), (9, 0)] [] m0 Q
  refine zw_7 zr_43_0 rfl ?_
  refine zw_3 zr_43_1 rfl ?_
  refine zw_C zr_43_2 (Or.inl rfl) zm_16 rfl rfl ⟨Nat.le_of_ble_eq_true rfl, Nat.le_of_ble_eq_true rfl, Nat.le_of_ble_eq_true rfl, rfl, by decide⟩ (by omega) (th_16 (d := d - 1) (by omega) hI0 (a0 := a0)      (by omega) ) ?_
  rintro _ m1 ⟨rfl, hIm1, gm1⟩
  have hFm1 : zFr W_43 m0 m1 := hF0.trans gm1 rfl
  show zW E (d) 43 5 [(2, 43), (0, a0), (0, a1), (0, a2), (0, a3), (9, 0), (9, 0)] [] m1 Q
  refine zw_push zr_43_5 ?_
  refine zw_10 (L' := [(2, 43), (0, a0), (0, a1), (0, a2), (0, a3), (0, 0), (9, 0)]) zr_43_6 (Nat.le_of_ble_eq_true rfl) rfl ?_
  have lp8_4 : ∀ (nlp8_4 : Nat) (i2 : Int) (m3 : zM), zInv m3 → zFr W_43 m0 m3 → 0 ≤ i2 → i2 ≤ 60 → (60 - i2).toNat < nlp8_4 → zW E (d) 43 8 [(2, 43), (0, a0), (0, a1), (0, a2), (0, a3), (0, i2), (9, 0)] [] m3 Q := by
    intro nlp8_4
    induction nlp8_4 with
    | zero =>
      intros
      exact absurd (by assumption : _ < 0) (Nat.not_lt_zero _)
    | succ nlp8_4 ihlp8_4 =>
      intro i2 m3 hIm3 hFm3 li2 ui2 hmlp8_4
      refine zw_4 zr_43_8 rfl ?_
      refine zw_7 zr_43_10 rfl ?_
      refine zw_46r (s := 1) zr_43_11 rfl rfl rfl rfl ?_
      obtain ⟨f6, ef6⟩ : ∃ v, m3 1 1 = v := ⟨_, rfl⟩
      have bf6 := ib_1_1 hIm3
      rw [ef6] at bf6
      refine zw_46i zr_43_14 ef6 rfl rfl rfl ?_
      refine zw_41_3 zr_43_17 ?_ ?_
      · intro h7
        refine zw_7 zr_43_46 rfl ?_
        refine zw_4 zr_43_47 rfl ?_
        refine zw_C zr_43_49 (Or.inl rfl) zm_30 rfl rfl ⟨Nat.le_of_ble_eq_true rfl, Nat.le_of_ble_eq_true rfl, Nat.le_of_ble_eq_true rfl, rfl, by decide⟩ (by omega) (th_30 (d := d - 1) (by omega) hIm3 (a0 := a3)      (by omega) ) ?_
        rintro _ _ ⟨r8, rfl, hr8a, hr8b, rfl⟩
        show zW E (d) 43 52 [(2, 43), (0, a0), (0, a1), (0, a2), (0, a3), (0, i2), (9, 0)] [(0, r8)] m3 Q
        refine zw_10 (L' := [(2, 43), (0, a0), (0, a1), (0, a2), (0, a3), (0, i2), (0, r8)]) zr_43_52 (Nat.le_of_ble_eq_true rfl) rfl ?_
        have lp54_11 : ∀ (nlp54_11 : Nat) (i9 : Int) (m10 : zM), zInv m10 → zFr W_43 m0 m10 → m10 1 1 = f6 → 0 ≤ i9 → i9 ≤ 60 → (60 - i9).toNat < nlp54_11 → zW E (d) 43 54 [(2, 43), (0, a0), (0, a1), (0, a2), (0, a3), (0, i9), (0, r8)] [] m10 Q := by
          intro nlp54_11
          induction nlp54_11 with
          | zero =>
            intros
            exact absurd (by assumption : _ < 0) (Nat.not_lt_zero _)
          | succ nlp54_11 ihlp54_11 =>
            intro i9 m10 hIm10 hFm10 km10_1_1 li9 ui9 hmlp54_11
            refine zw_4 zr_43_54 rfl ?_
            refine zw_7 zr_43_56 rfl ?_
            refine zw_46r (s := 1) zr_43_57 rfl rfl rfl rfl ?_
            refine zw_46i zr_43_60 km10_1_1 rfl rfl rfl ?_
            refine zw_41_3 zr_43_63 ?_ ?_
            · intro h13
              refine zw_7 zr_43_92 rfl ?_
              refine zw_4 zr_43_93 rfl ?_
              refine zw_C zr_43_95 (Or.inl rfl) zm_30 rfl rfl ⟨Nat.le_of_ble_eq_true rfl, Nat.le_of_ble_eq_true rfl, Nat.le_of_ble_eq_true rfl, rfl, by decide⟩ (by omega) (th_30 (d := d - 1) (by omega) hIm10 (a0 := a3)      (by omega) ) ?_
              rintro _ _ ⟨r14, rfl, hr14a, hr14b, rfl⟩
              show zW E (d) 43 98 [(2, 43), (0, a0), (0, a1), (0, a2), (0, a3), (0, i9), (0, r8)] [(0, r14)] m10 Q
              refine zw_4 zr_43_98 rfl ?_
              refine zw_17h zr_43_100 ?_
              intro x15 hx15a hx15b
              refine zw_R zr_43_101 (by decide) zm_43 (v := (0, x15)) rfl ?_
              rw [← hQ]; exact ⟨_, rfl, by omega, by omega, hIm10, hFm10⟩
            · intro h16
              refine zw_7 zr_43_66 rfl ?_
              refine zw_46r (s := 1) zr_43_67 rfl rfl rfl rfl ?_
              refine zw_46r (s := 5) zr_43_70 rfl rfl rfl rfl ?_
              refine zw_4 zr_43_73 rfl ?_
              refine zw_48 (c := 5) (len := 60) zr_43_75 rfl rfl (by omega) (by omega) ?_
              intro x17 ex17
              have bx17 := ib_5 hIm10 (k := (i9).toNat) (by omega)
              rw [← ex17] at bx17
              clear ex17
              refine zw_3 zr_43_76 rfl ?_
              refine zw_41_2 zr_43_77 ?_ ?_
              · intro h18
                refine zw_7 zr_43_92 rfl ?_
                refine zw_4 zr_43_93 rfl ?_
                refine zw_C zr_43_95 (Or.inl rfl) zm_30 rfl rfl ⟨Nat.le_of_ble_eq_true rfl, Nat.le_of_ble_eq_true rfl, Nat.le_of_ble_eq_true rfl, rfl, by decide⟩ (by omega) (th_30 (d := d - 1) (by omega) hIm10 (a0 := a3)      (by omega) ) ?_
                rintro _ _ ⟨r19, rfl, hr19a, hr19b, rfl⟩
                show zW E (d) 43 98 [(2, 43), (0, a0), (0, a1), (0, a2), (0, a3), (0, i9), (0, r8)] [(0, r19)] m10 Q
                refine zw_4 zr_43_98 rfl ?_
                refine zw_17h zr_43_100 ?_
                intro x20 hx20a hx20b
                refine zw_R zr_43_101 (by decide) zm_43 (v := (0, x20)) rfl ?_
                rw [← hQ]; exact ⟨_, rfl, by omega, by omega, hIm10, hFm10⟩
              · intro h21
                refine zw_7 zr_43_80 rfl ?_
                refine zw_4 zr_43_81 rfl ?_
                refine zw_C zr_43_83 (Or.inl rfl) zm_26 rfl rfl ⟨Nat.le_of_ble_eq_true rfl, Nat.le_of_ble_eq_true rfl, Nat.le_of_ble_eq_true rfl, rfl, by decide⟩ (by omega) (th_26 (d := d - 1) (by omega) hIm10 (a0 := i9)      (by omega) ) ?_
                rintro _ m22 ⟨rfl, hIm22, gm22⟩
                have hFm22 : zFr W_43 m0 m22 := hFm10.trans gm22 rfl
                have km22_1_1 : m22 1 1 = f6 := (gm22 1 1 rfl).trans km10_1_1
                show zW E (d) 43 86 [(2, 43), (0, a0), (0, a1), (0, a2), (0, a3), (0, i9), (0, r8)] [] m22 Q
                refine zw_15 (c := 1) (L' := [(2, 43), (0, a0), (0, a1), (0, a2), (0, a3), (0, (i9 + 1)), (0, r8)]) zr_43_86 rfl (by decide) (by omega) rfl ?_
                refine zw_42 zr_43_89 ?_
                exact zw_less (L := [(2, 43), (0, a0), (0, a1), (0, a2), (0, a3), (0, (i9 + 1)), (0, r8)]) ⟨Or.inr rfl, Or.inr rfl, Or.inr rfl, Or.inr rfl, Or.inr rfl, Or.inr rfl, Or.inr rfl, trivial⟩ (ihlp54_11 ((i9 + 1)) m22 hIm22 hFm22  km22_1_1 (by omega) (by omega)  (by omega))
        exact lp54_11 _ (i2) m3 hIm3 hFm3  ef6 (by omega) (by omega)  (Nat.lt_succ_self _)
      · intro h23
        refine zw_7 zr_43_20 rfl ?_
        refine zw_46r (s := 1) zr_43_21 rfl rfl rfl rfl ?_
        refine zw_46r (s := 5) zr_43_24 rfl rfl rfl rfl ?_
        refine zw_4 zr_43_27 rfl ?_
        refine zw_48 (c := 5) (len := 60) zr_43_29 rfl rfl (by omega) (by omega) ?_
        intro x24 ex24
        have bx24 := ib_5 hIm3 (k := (i2).toNat) (by omega)
        rw [← ex24] at bx24
        clear ex24
        refine zw_3 zr_43_30 rfl ?_
        refine zw_41_2 zr_43_31 ?_ ?_
        · intro h25
          refine zw_7 zr_43_46 rfl ?_
          refine zw_4 zr_43_47 rfl ?_
          refine zw_C zr_43_49 (Or.inl rfl) zm_30 rfl rfl ⟨Nat.le_of_ble_eq_true rfl, Nat.le_of_ble_eq_true rfl, Nat.le_of_ble_eq_true rfl, rfl, by decide⟩ (by omega) (th_30 (d := d - 1) (by omega) hIm3 (a0 := a3)      (by omega) ) ?_
          rintro _ _ ⟨r26, rfl, hr26a, hr26b, rfl⟩
          show zW E (d) 43 52 [(2, 43), (0, a0), (0, a1), (0, a2), (0, a3), (0, i2), (9, 0)] [(0, r26)] m3 Q
          refine zw_10 (L' := [(2, 43), (0, a0), (0, a1), (0, a2), (0, a3), (0, i2), (0, r26)]) zr_43_52 (Nat.le_of_ble_eq_true rfl) rfl ?_
          have lp54_29 : ∀ (nlp54_29 : Nat) (i27 : Int) (m28 : zM), zInv m28 → zFr W_43 m0 m28 → m28 1 1 = f6 → 0 ≤ i27 → i27 ≤ 60 → (60 - i27).toNat < nlp54_29 → zW E (d) 43 54 [(2, 43), (0, a0), (0, a1), (0, a2), (0, a3), (0, i27), (0, r26)] [] m28 Q := by
            intro nlp54_29
            induction nlp54_29 with
            | zero =>
              intros
              exact absurd (by assumption : _ < 0) (Nat.not_lt_zero _)
            | succ nlp54_29 ihlp54_29 =>
              intro i27 m28 hIm28 hFm28 km28_1_1 li27 ui27 hmlp54_29
              refine zw_4 zr_43_54 rfl ?_
              refine zw_7 zr_43_56 rfl ?_
              refine zw_46r (s := 1) zr_43_57 rfl rfl rfl rfl ?_
              refine zw_46i zr_43_60 km28_1_1 rfl rfl rfl ?_
              refine zw_41_3 zr_43_63 ?_ ?_
              · intro h31
                refine zw_7 zr_43_92 rfl ?_
                refine zw_4 zr_43_93 rfl ?_
                refine zw_C zr_43_95 (Or.inl rfl) zm_30 rfl rfl ⟨Nat.le_of_ble_eq_true rfl, Nat.le_of_ble_eq_true rfl, Nat.le_of_ble_eq_true rfl, rfl, by decide⟩ (by omega) (th_30 (d := d - 1) (by omega) hIm28 (a0 := a3)      (by omega) ) ?_
                rintro _ _ ⟨r32, rfl, hr32a, hr32b, rfl⟩
                show zW E (d) 43 98 [(2, 43), (0, a0), (0, a1), (0, a2), (0, a3), (0, i27), (0, r26)] [(0, r32)] m28 Q
                refine zw_4 zr_43_98 rfl ?_
                refine zw_17h zr_43_100 ?_
                intro x33 hx33a hx33b
                refine zw_R zr_43_101 (by decide) zm_43 (v := (0, x33)) rfl ?_
                rw [← hQ]; exact ⟨_, rfl, by omega, by omega, hIm28, hFm28⟩
              · intro h34
                refine zw_7 zr_43_66 rfl ?_
                refine zw_46r (s := 1) zr_43_67 rfl rfl rfl rfl ?_
                refine zw_46r (s := 5) zr_43_70 rfl rfl rfl rfl ?_
                refine zw_4 zr_43_73 rfl ?_
                refine zw_48 (c := 5) (len := 60) zr_43_75 rfl rfl (by omega) (by omega) ?_
                intro x35 ex35
                have bx35 := ib_5 hIm28 (k := (i27).toNat) (by omega)
                rw [← ex35] at bx35
                clear ex35
                refine zw_3 zr_43_76 rfl ?_
                refine zw_41_2 zr_43_77 ?_ ?_
                · intro h36
                  refine zw_7 zr_43_92 rfl ?_
                  refine zw_4 zr_43_93 rfl ?_
                  refine zw_C zr_43_95 (Or.inl rfl) zm_30 rfl rfl ⟨Nat.le_of_ble_eq_true rfl, Nat.le_of_ble_eq_true rfl, Nat.le_of_ble_eq_true rfl, rfl, by decide⟩ (by omega) (th_30 (d := d - 1) (by omega) hIm28 (a0 := a3)      (by omega) ) ?_
                  rintro _ _ ⟨r37, rfl, hr37a, hr37b, rfl⟩
                  show zW E (d) 43 98 [(2, 43), (0, a0), (0, a1), (0, a2), (0, a3), (0, i27), (0, r26)] [(0, r37)] m28 Q
                  refine zw_4 zr_43_98 rfl ?_
                  refine zw_17h zr_43_100 ?_
                  intro x38 hx38a hx38b
                  refine zw_R zr_43_101 (by decide) zm_43 (v := (0, x38)) rfl ?_
                  rw [← hQ]; exact ⟨_, rfl, by omega, by omega, hIm28, hFm28⟩
                · intro h39
                  refine zw_7 zr_43_80 rfl ?_
                  refine zw_4 zr_43_81 rfl ?_
                  refine zw_C zr_43_83 (Or.inl rfl) zm_26 rfl rfl ⟨Nat.le_of_ble_eq_true rfl, Nat.le_of_ble_eq_true rfl, Nat.le_of_ble_eq_true rfl, rfl, by decide⟩ (by omega) (th_26 (d := d - 1) (by omega) hIm28 (a0 := i27)      (by omega) ) ?_
                  rintro _ m40 ⟨rfl, hIm40, gm40⟩
                  have hFm40 : zFr W_43 m0 m40 := hFm28.trans gm40 rfl
                  have km40_1_1 : m40 1 1 = f6 := (gm40 1 1 rfl).trans km28_1_1
                  show zW E (d) 43 86 [(2, 43), (0, a0), (0, a1), (0, a2), (0, a3), (0, i27), (0, r26)] [] m40 Q
                  refine zw_15 (c := 1) (L' := [(2, 43), (0, a0), (0, a1), (0, a2), (0, a3), (0, (i27 + 1)), (0, r26)]) zr_43_86 rfl (by decide) (by omega) rfl ?_
                  refine zw_42 zr_43_89 ?_
                  exact zw_less (L := [(2, 43), (0, a0), (0, a1), (0, a2), (0, a3), (0, (i27 + 1)), (0, r26)]) ⟨Or.inr rfl, Or.inr rfl, Or.inr rfl, Or.inr rfl, Or.inr rfl, Or.inr rfl, Or.inr rfl, trivial⟩ (ihlp54_29 ((i27 + 1)) m40 hIm40 hFm40  km40_1_1 (by omega) (by omega)  (by omega))
          exact lp54_29 _ (i2) m3 hIm3 hFm3  ef6 (by omega) (by omega)  (Nat.lt_succ_self _)
        · intro h41
          refine zw_7 zr_43_34 rfl ?_
          refine zw_4 zr_43_35 rfl ?_
          refine zw_C zr_43_37 (Or.inl rfl) zm_26 rfl rfl ⟨Nat.le_of_ble_eq_true rfl, Nat.le_of_ble_eq_true rfl, Nat.le_of_ble_eq_true rfl, rfl, by decide⟩ (by omega) (th_26 (d := d - 1) (by omega) hIm3 (a0 := i2)      (by omega) ) ?_
          rintro _ m42 ⟨rfl, hIm42, gm42⟩
          have hFm42 : zFr W_43 m0 m42 := hFm3.trans gm42 rfl
          have km42_1_1 : m42 1 1 = f6 := (gm42 1 1 rfl).trans ef6
          show zW E (d) 43 40 [(2, 43), (0, a0), (0, a1), (0, a2), (0, a3), (0, i2), (9, 0)] [] m42 Q
          refine zw_15 (c := 1) (L' := [(2, 43), (0, a0), (0, a1), (0, a2), (0, a3), (0, (i2 + 1)), (9, 0)]) zr_43_40 rfl (by decide) (by omega) rfl ?_
          refine zw_42 zr_43_43 ?_
          exact zw_less (L := [(2, 43), (0, a0), (0, a1), (0, a2), (0, a3), (0, (i2 + 1)), (9, 0)]) ⟨Or.inr rfl, Or.inr rfl, Or.inr rfl, Or.inr rfl, Or.inr rfl, Or.inr rfl, Or.inl rfl, trivial⟩ (ihlp8_4 ((i2 + 1)) m42 hIm42 hFm42   (by omega) (by omega)  (by omega))
  exact lp8_4 _ (0) m1 hIm1 hFm1   (by omega) (by omega)  (Nat.lt_succ_self _)

set_option maxHeartbeats 8000000 in
theorem th_29 {E : zE} {d : Nat} {m0 : zM} {a0 : Int} (hd : 1 ≤ d) (hI0 : zInv m0) (ha0 : (-2147483648) ≤ a0 ∧ a0 ≤ 2147483647) : zC E d 29 [(0, a0)] m0 (fun v m' => ∃ r : Int, v = (0, r) ∧ 0 ≤ r ∧ r ≤ 63 ∧ m0 = m') := by
  generalize hQ : (fun (v : zV) (m' : zM) => ∃ r : Int, v = (0, r) ∧ 0 ≤ r ∧ r ≤ 63 ∧ m0 = m') = Q
  show zW E d 29 0 [(0, a0)] [] m0 Q
  refine zw_3 zr_29_0 rfl ?_
  refine zw_3 zr_29_1 rfl ?_
  refine zw_push zr_29_2 ?_
  refine zw_26h zr_29_3 ?_
  intro x1 hx1a hx1b
  refine zw_push zr_29_4 ?_
  refine zw_21m zr_29_7 (by omega) (by omega) ?_
  intro x2 hx2a hx2b
  refine zw_17h zr_29_8 ?_
  intro x3 hx3a hx3b
  refine zw_9 (L' := [(0, x3)]) zr_29_9 (Nat.le_of_ble_eq_true rfl) rfl ?_
  refine zw_3 zr_29_10 rfl ?_
  refine zw_push zr_29_11 ?_
  refine zw_21m zr_29_14 (by omega) (by omega) ?_
  intro x4 hx4a hx4b
  refine zw_3 zr_29_15 rfl ?_
  refine zw_push zr_29_16 ?_
  refine zw_26h zr_29_17 ?_
  intro x5 hx5a hx5b
  refine zw_push zr_29_18 ?_
  refine zw_21m zr_29_21 (by omega) (by omega) ?_
  intro x6 hx6a hx6b
  refine zw_16 zr_29_22 (by omega) ?_
  refine zw_9 (L' := [(0, (x4 + x6))]) zr_29_23 (Nat.le_of_ble_eq_true rfl) rfl ?_
  refine zw_3 zr_29_24 rfl ?_
  refine zw_3 zr_29_25 rfl ?_
  refine zw_push zr_29_26 ?_
  refine zw_26h zr_29_27 ?_
  intro x7 hx7a hx7b
  refine zw_16h zr_29_28 ?_
  intro x8 hx8a hx8b
  refine zw_push zr_29_29 ?_
  refine zw_21m zr_29_32 (by omega) (by omega) ?_
  intro x9 hx9a hx9b
  refine zw_9 (L' := [(0, x9)]) zr_29_33 (Nat.le_of_ble_eq_true rfl) rfl ?_
  refine zw_3 zr_29_34 rfl ?_
  refine zw_3 zr_29_35 rfl ?_
  refine zw_push zr_29_36 ?_
  refine zw_26h zr_29_38 ?_
  intro x10 hx10a hx10b
  refine zw_16h zr_29_39 ?_
  intro x11 hx11a hx11b
  refine zw_9 (L' := [(0, x11)]) zr_29_40 (Nat.le_of_ble_eq_true rfl) rfl ?_
  refine zw_3 zr_29_41 rfl ?_
  refine zw_3 zr_29_42 rfl ?_
  refine zw_push zr_29_43 ?_
  refine zw_26h zr_29_45 ?_
  intro x12 hx12a hx12b
  refine zw_16h zr_29_46 ?_
  intro x13 hx13a hx13b
  refine zw_9 (L' := [(0, x13)]) zr_29_47 (Nat.le_of_ble_eq_true rfl) rfl ?_
  refine zw_3 zr_29_48 rfl ?_
  refine zw_push zr_29_49 ?_
  refine zw_21m zr_29_51 (by omega) (by omega) ?_
  intro x14 hx14a hx14b
  refine zw_R zr_29_52 (by decide) zm_29 (v := (0, x14)) rfl ?_
  rw [← hQ]; exact ⟨_, rfl, by omega, by omega, rfl⟩

set_option maxHeartbeats 8000000 in
theorem th_37 {E : zE} {d : Nat} {m0 : zM} {a0 : Int} {a1 : Int} (hd : 1 ≤ d) (hI0 : zInv m0) (ha0 : (-9223372036854775808) ≤ a0 ∧ a0 ≤ 9223372036854775807) (ha1 : (-9223372036854775808) ≤ a1 ∧ a1 ≤ 9223372036854775807) : zC E d 37 [(1, a0), (1, a1)] m0 (fun v m' => ∃ r : Int, v = (1, r) ∧ (-9223372036854775808) ≤ r ∧ r ≤ 9223372036854775807 ∧ m0 = m') := by
  generalize hQ : (fun (v : zV) (m' : zM) => ∃ r : Int, v = (1, r) ∧ (-9223372036854775808) ≤ r ∧ r ≤ 9223372036854775807 ∧ m0 = m') = Q
  show zW E d 37 0 [(1, a0), (9, 0), (1, a1), (9, 0), (9, 0), (9, 0), (9, 0), (9, 0), (9, 0), (9, 0), (9, 0)] [] m0 Q
  refine zw_5 zr_37_0 rfl ?_
  refine zw_14 (L' := [(1, a0), (9, 0), (1, a1), (9, 0), (1, a0), (9, 0), (9, 0), (9, 0), (9, 0), (9, 0), (9, 0)]) zr_37_1 (Nat.le_of_ble_eq_true rfl) rfl ?_
  refine zw_5 zr_37_3 rfl ?_
  refine zw_14 (L' := [(1, a0), (9, 0), (1, a1), (9, 0), (1, a0), (9, 0), (1, a1), (9, 0), (9, 0), (9, 0), (9, 0)]) zr_37_4 (Nat.le_of_ble_eq_true rfl) rfl ?_
  refine zw_push zr_37_6 ?_
  refine zw_10 (L' := [(1, a0), (9, 0), (1, a1), (9, 0), (1, a0), (9, 0), (1, a1), (9, 0), (0, 0), (9, 0), (9, 0)]) zr_37_7 (Nat.le_of_ble_eq_true rfl) rfl ?_
  have lp9_4 : ∀ (nlp9_4 : Nat) (i1 i2 i3 : Int), (-9223372036854775808) ≤ i1 → i1 ≤ 9223372036854775807 → (-9223372036854775808) ≤ i2 → i2 ≤ 9223372036854775807 → 0 ≤ i3 → i3 ≤ 100 → (100 - i3).toNat < nlp9_4 → zW E (d) 37 9 [(1, a0), (9, 0), (1, a1), (9, 0), (1, i1), (9, 0), (1, i2), (9, 0), (0, i3), (9, 0), (9, 0)] [] m0 Q := by
    intro nlp9_4
    induction nlp9_4 with
    | zero =>
      intros
      exact absurd (by assumption : _ < 0) (Nat.not_lt_zero _)
    | succ nlp9_4 ihlp9_4 =>
      intro i1 i2 i3 li1 ui1 li2 ui2 li3 ui3 hmlp9_4
      refine zw_4 zr_37_9 rfl ?_
      refine zw_push zr_37_11 ?_
      refine zw_41_3 zr_37_13 ?_ ?_
      · intro h6
        refine zw_6 zr_37_44 rfl ?_
        refine zw_R zr_37_46 (by decide) zm_37 (v := (1, i1)) rfl ?_
        rw [← hQ]; exact ⟨_, rfl, by omega, by omega, rfl⟩
      · intro h7
        refine zw_6 zr_37_16 rfl ?_
        refine zw_push zr_37_18 ?_
        refine zw_39_1 zr_37_19 zr_37_20 ?_ ?_
        · intro h8
          refine zw_6 zr_37_44 rfl ?_
          refine zw_R zr_37_46 (by decide) zm_37 (v := (1, i1)) rfl ?_
          rw [← hQ]; exact ⟨_, rfl, by omega, by omega, rfl⟩
        · intro h9
          refine zw_6 zr_37_23 rfl ?_
          refine zw_6 zr_37_25 rfl ?_
          refine zw_119r zr_37_27 (by omega) (by omega) (by omega) ?_
          intro x10 hx10a hx10b hx10c
          refine zw_14 (L' := [(1, a0), (9, 0), (1, a1), (9, 0), (1, i1), (9, 0), (1, i2), (9, 0), (0, i3), (1, x10), (9, 0)]) zr_37_28 (Nat.le_of_ble_eq_true rfl) rfl ?_
          refine zw_6 zr_37_30 rfl ?_
          refine zw_14 (L' := [(1, a0), (9, 0), (1, a1), (9, 0), (1, i2), (9, 0), (1, i2), (9, 0), (0, i3), (1, x10), (9, 0)]) zr_37_32 (Nat.le_of_ble_eq_true rfl) rfl ?_
          refine zw_6 zr_37_34 rfl ?_
          refine zw_14 (L' := [(1, a0), (9, 0), (1, a1), (9, 0), (1, i2), (9, 0), (1, x10), (9, 0), (0, i3), (1, x10), (9, 0)]) zr_37_36 (Nat.le_of_ble_eq_true rfl) rfl ?_
          refine zw_15 (c := 1) (L' := [(1, a0), (9, 0), (1, a1), (9, 0), (1, i2), (9, 0), (1, x10), (9, 0), (0, (i3 + 1)), (1, x10), (9, 0)]) zr_37_38 rfl (by decide) (by omega) rfl ?_
          refine zw_42 zr_37_41 ?_
          exact zw_less (L := [(1, a0), (9, 0), (1, a1), (9, 0), (1, i2), (9, 0), (1, x10), (9, 0), (0, (i3 + 1)), (9, 0), (9, 0)]) ⟨Or.inr rfl, Or.inl rfl, Or.inr rfl, Or.inl rfl, Or.inr rfl, Or.inl rfl, Or.inr rfl, Or.inl rfl, Or.inr rfl, Or.inl rfl, Or.inl rfl, trivial⟩ (ihlp9_4 (i2) (x10) ((i3 + 1))  (by omega) (by omega) (by omega) (by omega) (by omega) (by omega)  (by omega))
  exact lp9_4 _ (a0) (a1) (0)  (by omega) (by omega) (by omega) (by omega) (by omega) (by omega)  (Nat.lt_succ_self _)

abbrev W_38 : List (Nat × Nat) := [(42, 0), (42, 1)]
set_option maxHeartbeats 8000000 in
theorem th_38 {E : zE} {d : Nat} {m0 : zM} {a0 : Int} {a1 : Int} (hd : 2 ≤ d) (hI0 : zInv m0) (ha0 : (-9223372036854775808) ≤ a0 ∧ a0 ≤ 9223372036854775807) (ha1 : (-9223372036854775808) ≤ a1 ∧ a1 ≤ 9223372036854775807) : zC E d 38 [(2, 42), (1, a0), (1, a1)] m0 (fun v m' => v = (9, 0) ∧ zInv m' ∧ zFr W_38 m0 m') := by
  have hF0 : zFr W_38 m0 m0 := zFr.rfl
  generalize hQ : (fun (v : zV) (m' : zM) => v = (9, 0) ∧ zInv m' ∧ zFr W_38 m0 m') = Q
  show zW E d 38 0 [(2, 42), (1, a0), (9, 0), (1, a1), (9, 0), (9, 0), (9, 0)] [] m0 Q
  refine zw_5 zr_38_0 rfl ?_
  refine zw_125h zr_38_1 (Nat.le_of_ble_eq_true rfl) (by omega) ?_
  intro x1 hx1a hx1b
  refine zw_5 zr_38_4 rfl ?_
  refine zw_C zr_38_5 (Or.inr rfl) zm_37 rfl rfl ⟨Nat.le_of_ble_eq_true rfl, Nat.le_of_ble_eq_true rfl, Nat.le_of_ble_eq_true rfl, rfl, by decide⟩ (by omega) (th_37 (d := d - 1) (by omega) hI0 (a0 := x1) (a1 := a1)      (by omega) (by omega) ) ?_
  rintro _ _ ⟨r2, rfl, hr2a, hr2b, rfl⟩
  show zW E (d) 38 8 [(2, 42), (1, a0), (9, 0), (1, a1), (9, 0), (9, 0), (9, 0)] [(1, r2)] m0 Q
  refine zw_14 (L' := [(2, 42), (1, a0), (9, 0), (1, a1), (9, 0), (1, r2), (9, 0)]) zr_38_8 (Nat.le_of_ble_eq_true rfl) rfl ?_
  refine zw_6 zr_38_10 rfl ?_
  refine zw_push zr_38_12 ?_
  refine zw_39_5 zr_38_13 zr_38_14 ?_ ?_
  · intro h3
    refine zw_R zr_38_33 (by decide) zm_38 (v := (9, 0)) rfl ?_
    rw [← hQ]; exact ⟨rfl, hI0, hF0⟩
  · intro h4
    refine zw_7 zr_38_17 rfl ?_
    refine zw_5 zr_38_18 rfl ?_
    refine zw_6 zr_38_19 rfl ?_
    refine zw_118h zr_38_21 (by omega) ?_
    intro x5 hx5a hx5b
    refine zw_47 (c := 42) zr_38_22 rfl ⟨rfl, by decide, rfl⟩ ?_
    intro m6 em6
    have hIm6 : zInv m6 := by rw [em6]; exact hI0.anyl (by omega) (by decide) rfl (by decide) (by decide)
    have hFm6 : zFr W_38 m0 m6 := by rw [em6]; exact hF0.up rfl
    have km6_42_0 : m6 42 0 = x5 := by rw [em6]; exact zUp_eq _ _ _ _
    clear em6
    refine zw_7 zr_38_25 rfl ?_
    refine zw_5 zr_38_26 rfl ?_
    refine zw_6 zr_38_27 rfl ?_
    refine zw_118h zr_38_29 (by omega) ?_
    intro x7 hx7a hx7b
    refine zw_47 (c := 42) zr_38_30 rfl ⟨rfl, by decide, rfl⟩ ?_
    intro m8 em8
    have hIm8 : zInv m8 := by rw [em8]; exact hIm6.anyl (by omega) (by decide) rfl (by decide) (by decide)
    have hFm8 : zFr W_38 m0 m8 := by rw [em8]; exact hFm6.up rfl
    have km8_42_0 : m8 42 0 = x5 := by rw [em8, zUp_ne (by omega)]; exact km6_42_0
    have km8_42_1 : m8 42 1 = x7 := by rw [em8]; exact zUp_eq _ _ _ _
    clear em8
    refine zw_R zr_38_33 (by decide) zm_38 (v := (9, 0)) rfl ?_
    rw [← hQ]; exact ⟨rfl, hIm8, hFm8⟩

abbrev W_111 : List (Nat × Nat) := [(42, 0), (42, 1), (43, 5), (44, 1000), (45, 1), (45, 5), (45, 6), (45, 7), (45, 8), (45, 9), (46, 1000), (47, 1000), (48, 1000), (49, 1000), (50, 1000), (51, 1000)]
set_option maxHeartbeats 8000000 in
theorem th_111 {E : zE} {d : Nat} {m0 : zM} {a0 : Int} {a1 : Int} {a2 : Int} (hd : 96 ≤ d) (hI0 : zInv m0) (ha0 : (-2147483648) ≤ a0 ∧ a0 ≤ 2147483647) (ha1 : (-2147483648) ≤ a1 ∧ a1 ≤ 2147483647) (ha2 : (-2147483648) ≤ a2 ∧ a2 ≤ 2147483647) : zC E d 111 [(2, 0), (0, a0), (0, a1), (0, a2)] m0 (fun v m' => ∃ r : Int, v = (0, r) ∧ (-2) ≤ r ∧ r ≤ 1 ∧ zInv m' ∧ zFr W_111 m0 m') := by
  have hF0 : zFr W_111 m0 m0 := zFr.rfl
  generalize hQ : (fun (v : zV) (m' : zM) => ∃ r : Int, v = (0, r) ∧ (-2) ≤ r ∧ r ≤ 1 ∧ zInv m' ∧ zFr W_111 m0 m') = Q
  show zW E d 111 0 [(2, 0), (0, a0), (0, a1), (0, a2), (9, 0)] [] m0 Q
  refine zw_3 zr_111_0 rfl ?_
  refine zw_C zr_111_1 (Or.inr rfl) zm_104 rfl rfl ⟨Nat.le_of_ble_eq_true rfl, Nat.le_of_ble_eq_true rfl, Nat.le_of_ble_eq_true rfl, rfl, by decide⟩ (by omega) (P := (fun v m' => zW E (d) 111 4 [(2, 0), (0, a0), (0, a1), (0, a2), (9, 0)] (if v.1 = 9 then [] else v :: []) m' Q)) ?_ (fun _ _ h => h)
  generalize hQ1 : (fun v m' => zW E (d) 111 4 [(2, 0), (0, a0), (0, a1), (0, a2), (9, 0)] (if v.1 = 9 then [] else v :: []) m' Q) = Q1
  show zW E (d - 1) 104 0 [(0, a0)] [] m0 Q1
  refine zw_3 zr_104_0 rfl ?_
  refine zw_push zr_104_1 ?_
  refine zw_push zr_104_2 ?_
  refine zw_C zr_104_3 (Or.inr rfl) zm_100 rfl rfl ⟨Nat.le_of_ble_eq_true rfl, Nat.le_of_ble_eq_true rfl, Nat.le_of_ble_eq_true rfl, rfl, by decide⟩ (by omega) (P := (fun v m' => zW E (d - 1) 104 6 [(0, a0)] (if v.1 = 9 then [] else v :: []) m' Q1)) ?_ (fun _ _ h => h)
  generalize hQ2 : (fun v m' => zW E (d - 1) 104 6 [(0, a0)] (if v.1 = 9 then [] else v :: []) m' Q1) = Q2
  show zW E (d - 1 - 1) 100 0 [(0, a0), (0, 0), (0, 3)] [] m0 Q2
  refine zw_3 zr_100_0 rfl ?_
  refine zw_3 zr_100_1 rfl ?_
  refine zw_41_0 zr_100_2 ?_ ?_
  · intro h1
    refine zw_push zr_100_14 ?_
    refine zw_R zr_100_15 (by decide) zm_100 (v := (0, 0)) (zRetB (by omega)) ?_
    rw [← hQ2]
    show zW E (d - 1) 104 6 [(0, a0)] [(0, 0)] m0 Q1
    refine zw_R zr_104_6 (by decide) zm_104 (v := (0, 0)) (zRetB (by omega)) ?_
    rw [← hQ1]
    show zW E (d) 111 4 [(2, 0), (0, a0), (0, a1), (0, a2), (9, 0)] [(0, 0)] m0 Q
    refine zw_40_1 zr_111_4 ?_ ?_
    · intro h2
      refine zw_push zr_111_26 ?_
      refine zw_R zr_111_28 (by decide) zm_111 (v := (0, (-2))) rfl ?_
      rw [← hQ]; exact ⟨_, rfl, by omega, by omega, hI0, hF0⟩
    · intro h3; omega
  · intro h4
    refine zw_3 zr_100_5 rfl ?_
    refine zw_3 zr_100_6 rfl ?_
    refine zw_41_2 zr_100_7 ?_ ?_
    · intro h5
      refine zw_push zr_100_14 ?_
      refine zw_R zr_100_15 (by decide) zm_100 (v := (0, 0)) (zRetB (by omega)) ?_
      rw [← hQ2]
      show zW E (d - 1) 104 6 [(0, a0)] [(0, 0)] m0 Q1
      refine zw_R zr_104_6 (by decide) zm_104 (v := (0, 0)) (zRetB (by omega)) ?_
      rw [← hQ1]
      show zW E (d) 111 4 [(2, 0), (0, a0), (0, a1), (0, a2), (9, 0)] [(0, 0)] m0 Q
      refine zw_40_1 zr_111_4 ?_ ?_
      · intro h6
        refine zw_push zr_111_26 ?_
        refine zw_R zr_111_28 (by decide) zm_111 (v := (0, (-2))) rfl ?_
        rw [← hQ]; exact ⟨_, rfl, by omega, by omega, hI0, hF0⟩
      · intro h7; omega
    · intro h8
      refine zw_push zr_100_10 ?_
      refine zw_42 zr_100_11 ?_
      refine zw_R zr_100_15 (by decide) zm_100 (v := (0, 1)) (zRetB (by omega)) ?_
      rw [← hQ2]
      show zW E (d - 1) 104 6 [(0, a0)] [(0, 1)] m0 Q1
      refine zw_R zr_104_6 (by decide) zm_104 (v := (0, 1)) (zRetB (by omega)) ?_
      rw [← hQ1]
      show zW E (d) 111 4 [(2, 0), (0, a0), (0, a1), (0, a2), (9, 0)] [(0, 1)] m0 Q
      refine zw_40_1 zr_111_4 ?_ ?_
      · intro h9; omega
      · intro h10
        refine zw_3 zr_111_7 rfl ?_
        refine zw_C zr_111_8 (Or.inr rfl) zm_101 rfl rfl ⟨Nat.le_of_ble_eq_true rfl, Nat.le_of_ble_eq_true rfl, Nat.le_of_ble_eq_true rfl, rfl, by decide⟩ (by omega) (P := (fun v m' => zW E (d) 111 11 [(2, 0), (0, a0), (0, a1), (0, a2), (9, 0)] (if v.1 = 9 then [] else v :: []) m' Q)) ?_ (fun _ _ h => h)
        generalize hQ1 : (fun v m' => zW E (d) 111 11 [(2, 0), (0, a0), (0, a1), (0, a2), (9, 0)] (if v.1 = 9 then [] else v :: []) m' Q) = Q1
        show zW E (d - 1) 101 0 [(0, a1)] [] m0 Q1
        refine zw_3 zr_101_0 rfl ?_
        refine zw_push zr_101_1 ?_
        refine zw_push zr_101_2 ?_
        refine zw_C zr_101_4 (Or.inr rfl) zm_100 rfl rfl ⟨Nat.le_of_ble_eq_true rfl, Nat.le_of_ble_eq_true rfl, Nat.le_of_ble_eq_true rfl, rfl, by decide⟩ (by omega) (P := (fun v m' => zW E (d - 1) 101 7 [(0, a1)] (if v.1 = 9 then [] else v :: []) m' Q1)) ?_ (fun _ _ h => h)
        generalize hQ2 : (fun v m' => zW E (d - 1) 101 7 [(0, a1)] (if v.1 = 9 then [] else v :: []) m' Q1) = Q2
        show zW E (d - 1 - 1) 100 0 [(0, a1), (0, 0), (0, 99)] [] m0 Q2
        refine zw_3 zr_100_0 rfl ?_
        refine zw_3 zr_100_1 rfl ?_
        refine zw_41_0 zr_100_2 ?_ ?_
        · intro h11
          refine zw_push zr_100_14 ?_
          refine zw_R zr_100_15 (by decide) zm_100 (v := (0, 0)) (zRetB (by omega)) ?_
          rw [← hQ2]
          show zW E (d - 1) 101 7 [(0, a1)] [(0, 0)] m0 Q1
          refine zw_R zr_101_7 (by decide) zm_101 (v := (0, 0)) (zRetB (by omega)) ?_
          rw [← hQ1]
          show zW E (d) 111 11 [(2, 0), (0, a0), (0, a1), (0, a2), (9, 0)] [(0, 0)] m0 Q
          refine zw_40_1 zr_111_11 ?_ ?_
          · intro h12
            refine zw_push zr_111_26 ?_
            refine zw_R zr_111_28 (by decide) zm_111 (v := (0, (-2))) rfl ?_
            rw [← hQ]; exact ⟨_, rfl, by omega, by omega, hI0, hF0⟩
          · intro h13; omega
        · intro h14
          refine zw_3 zr_100_5 rfl ?_
          refine zw_3 zr_100_6 rfl ?_
          refine zw_41_2 zr_100_7 ?_ ?_
          · intro h15
            refine zw_push zr_100_14 ?_
            refine zw_R zr_100_15 (by decide) zm_100 (v := (0, 0)) (zRetB (by omega)) ?_
            rw [← hQ2]
            show zW E (d - 1) 101 7 [(0, a1)] [(0, 0)] m0 Q1
            refine zw_R zr_101_7 (by decide) zm_101 (v := (0, 0)) (zRetB (by omega)) ?_
            rw [← hQ1]
            show zW E (d) 111 11 [(2, 0), (0, a0), (0, a1), (0, a2), (9, 0)] [(0, 0)] m0 Q
            refine zw_40_1 zr_111_11 ?_ ?_
            · intro h16
              refine zw_push zr_111_26 ?_
              refine zw_R zr_111_28 (by decide) zm_111 (v := (0, (-2))) rfl ?_
              rw [← hQ]; exact ⟨_, rfl, by omega, by omega, hI0, hF0⟩
            · intro h17; omega
          · intro h18
            refine zw_push zr_100_10 ?_
            refine zw_42 zr_100_11 ?_
            refine zw_R zr_100_15 (by decide) zm_100 (v := (0, 1)) (zRetB (by omega)) ?_
            rw [← hQ2]
            show zW E (d - 1) 101 7 [(0, a1)] [(0, 1)] m0 Q1
            refine zw_R zr_101_7 (by decide) zm_101 (v := (0, 1)) (zRetB (by omega)) ?_
            rw [← hQ1]
            show zW E (d) 111 11 [(2, 0), (0, a0), (0, a1), (0, a2), (9, 0)] [(0, 1)] m0 Q
            refine zw_40_1 zr_111_11 ?_ ?_
            · intro h19; omega
            · intro h20
              refine zw_3 zr_111_14 rfl ?_
              refine zw_C zr_111_15 (Or.inr rfl) zm_101 rfl rfl ⟨Nat.le_of_ble_eq_true rfl, Nat.le_of_ble_eq_true rfl, Nat.le_of_ble_eq_true rfl, rfl, by decide⟩ (by omega) (P := (fun v m' => zW E (d) 111 18 [(2, 0), (0, a0), (0, a1), (0, a2), (9, 0)] (if v.1 = 9 then [] else v :: []) m' Q)) ?_ (fun _ _ h => h)
              generalize hQ1 : (fun v m' => zW E (d) 111 18 [(2, 0), (0, a0), (0, a1), (0, a2), (9, 0)] (if v.1 = 9 then [] else v :: []) m' Q) = Q1
              show zW E (d - 1) 101 0 [(0, a2)] [] m0 Q1
              refine zw_3 zr_101_0 rfl ?_
              refine zw_push zr_101_1 ?_
              refine zw_push zr_101_2 ?_
              refine zw_C zr_101_4 (Or.inr rfl) zm_100 rfl rfl ⟨Nat.le_of_ble_eq_true rfl, Nat.le_of_ble_eq_true rfl, Nat.le_of_ble_eq_true rfl, rfl, by decide⟩ (by omega) (P := (fun v m' => zW E (d - 1) 101 7 [(0, a2)] (if v.1 = 9 then [] else v :: []) m' Q1)) ?_ (fun _ _ h => h)
              generalize hQ2 : (fun v m' => zW E (d - 1) 101 7 [(0, a2)] (if v.1 = 9 then [] else v :: []) m' Q1) = Q2
              show zW E (d - 1 - 1) 100 0 [(0, a2), (0, 0), (0, 99)] [] m0 Q2
              refine zw_3 zr_100_0 rfl ?_
              refine zw_3 zr_100_1 rfl ?_
              refine zw_41_0 zr_100_2 ?_ ?_
              · intro h21
                refine zw_push zr_100_14 ?_
                refine zw_R zr_100_15 (by decide) zm_100 (v := (0, 0)) (zRetB (by omega)) ?_
                rw [← hQ2]
                show zW E (d - 1) 101 7 [(0, a2)] [(0, 0)] m0 Q1
                refine zw_R zr_101_7 (by decide) zm_101 (v := (0, 0)) (zRetB (by omega)) ?_
                rw [← hQ1]
                show zW E (d) 111 18 [(2, 0), (0, a0), (0, a1), (0, a2), (9, 0)] [(0, 0)] m0 Q
                refine zw_40_1 zr_111_18 ?_ ?_
                · intro h22
                  refine zw_push zr_111_26 ?_
                  refine zw_R zr_111_28 (by decide) zm_111 (v := (0, (-2))) rfl ?_
                  rw [← hQ]; exact ⟨_, rfl, by omega, by omega, hI0, hF0⟩
                · intro h23; omega
              · intro h24
                refine zw_3 zr_100_5 rfl ?_
                refine zw_3 zr_100_6 rfl ?_
                refine zw_41_2 zr_100_7 ?_ ?_
                · intro h25
                  refine zw_push zr_100_14 ?_
                  refine zw_R zr_100_15 (by decide) zm_100 (v := (0, 0)) (zRetB (by omega)) ?_
                  rw [← hQ2]
                  show zW E (d - 1) 101 7 [(0, a2)] [(0, 0)] m0 Q1
                  refine zw_R zr_101_7 (by decide) zm_101 (v := (0, 0)) (zRetB (by omega)) ?_
                  rw [← hQ1]
                  show zW E (d) 111 18 [(2, 0), (0, a0), (0, a1), (0, a2), (9, 0)] [(0, 0)] m0 Q
                  refine zw_40_1 zr_111_18 ?_ ?_
                  · intro h26
                    refine zw_push zr_111_26 ?_
                    refine zw_R zr_111_28 (by decide) zm_111 (v := (0, (-2))) rfl ?_
                    rw [← hQ]; exact ⟨_, rfl, by omega, by omega, hI0, hF0⟩
                  · intro h27; omega
                · intro h28
                  refine zw_push zr_100_10 ?_
                  refine zw_42 zr_100_11 ?_
                  refine zw_R zr_100_15 (by decide) zm_100 (v := (0, 1)) (zRetB (by omega)) ?_
                  rw [← hQ2]
                  show zW E (d - 1) 101 7 [(0, a2)] [(0, 1)] m0 Q1
                  refine zw_R zr_101_7 (by decide) zm_101 (v := (0, 1)) (zRetB (by omega)) ?_
                  rw [← hQ1]
                  show zW E (d) 111 18 [(2, 0), (0, a0), (0, a1), (0, a2), (9, 0)] [(0, 1)] m0 Q
                  refine zw_40_1 zr_111_18 ?_ ?_
                  · intro h29; omega
                  · intro h30
                    refine zw_3 zr_111_21 rfl ?_
                    refine zw_3 zr_111_22 rfl ?_
                    refine zw_41_2 zr_111_23 ?_ ?_
                    · intro h31
                      refine zw_7 zr_111_29 rfl ?_
                      refine zw_46r (s := 1) zr_111_30 rfl rfl rfl rfl ?_
                      refine zw_3 zr_111_33 rfl ?_
                      refine zw_C zr_111_34 (Or.inl rfl) zm_55 rfl rfl ⟨Nat.le_of_ble_eq_true rfl, Nat.le_of_ble_eq_true rfl, Nat.le_of_ble_eq_true rfl, rfl, by decide⟩ (by omega) (th_55 (d := d - 1) (by omega) hI0 (a0 := a1)      (by omega) ) ?_
                      rintro _ _ ⟨r32, rfl, hr32a, hr32b, rfl⟩
                      show zW E (d) 111 37 [(2, 0), (0, a0), (0, a1), (0, a2), (9, 0)] [(0, r32)] m0 Q
                      refine zw_7 zr_111_37 rfl ?_
                      refine zw_46r (s := 1) zr_111_38 rfl rfl rfl rfl ?_
                      refine zw_3 zr_111_41 rfl ?_
                      refine zw_C zr_111_42 (Or.inl rfl) zm_55 rfl rfl ⟨Nat.le_of_ble_eq_true rfl, Nat.le_of_ble_eq_true rfl, Nat.le_of_ble_eq_true rfl, rfl, by decide⟩ (by omega) (th_55 (d := d - 1) (by omega) hI0 (a0 := a2)      (by omega) ) ?_
                      rintro _ _ ⟨r33, rfl, hr33a, hr33b, rfl⟩
                      show zW E (d) 111 45 [(2, 0), (0, a0), (0, a1), (0, a2), (9, 0)] [(0, r33), (0, r32)] m0 Q
                      refine zw_21h zr_111_45 ?_
                      intro x34 hx34a hx34b
                      refine zw_10 (L' := [(2, 0), (0, a0), (0, a1), (0, a2), (0, x34)]) zr_111_46 (Nat.le_of_ble_eq_true rfl) rfl ?_
                      refine zw_4 zr_111_48 rfl ?_
                      refine zw_40_4 zr_111_50 ?_ ?_
                      · intro h35
                        refine zw_7 zr_111_55 rfl ?_
                        refine zw_46r (s := 42) zr_111_56 rfl rfl rfl rfl ?_
                        refine zw_7 zr_111_59 rfl ?_
                        refine zw_46r (s := 43) zr_111_60 rfl rfl rfl rfl ?_
                        refine zw_3 zr_111_63 rfl ?_
                        refine zw_3 zr_111_64 rfl ?_
                        refine zw_3 zr_111_65 rfl ?_
                        refine zw_4 zr_111_66 rfl ?_
                        refine zw_C zr_111_68 (Or.inl rfl) zm_43 rfl rfl ⟨Nat.le_of_ble_eq_true rfl, Nat.le_of_ble_eq_true rfl, Nat.le_of_ble_eq_true rfl, rfl, by decide⟩ (by omega) (th_43 (d := d - 1) (by omega) hI0 (a0 := a0) (a1 := a1) (a2 := a2) (a3 := x34)      (by omega) (by omega) (by omega) (by omega) ) ?_
                        rintro _ m36 ⟨r37, rfl, hr37a, hr37b, hIm36, gm36⟩
                        have hFm36 : zFr W_111 m0 m36 := hF0.trans gm36 rfl
                        show zW E (d) 111 71 [(2, 0), (0, a0), (0, a1), (0, a2), (0, x34)] [(0, r37), (2, 42)] m36 Q
                        refine zw_36 zr_111_71 ?_
                        refine zw_4 zr_111_72 rfl ?_
                        refine zw_C zr_111_74 (Or.inr rfl) zm_29 rfl rfl ⟨Nat.le_of_ble_eq_true rfl, Nat.le_of_ble_eq_true rfl, Nat.le_of_ble_eq_true rfl, rfl, by decide⟩ (by omega) (th_29 (d := d - 1) (by omega) hIm36 (a0 := x34)      (by omega) ) ?_
                        rintro _ _ ⟨r38, rfl, hr38a, hr38b, rfl⟩
                        show zW E (d) 111 77 [(2, 0), (0, a0), (0, a1), (0, a2), (0, x34)] [(0, r38), (1, r37), (2, 42)] m36 Q
                        refine zw_36 zr_111_77 ?_
                        refine zw_C zr_111_78 (Or.inl rfl) zm_38 rfl rfl ⟨Nat.le_of_ble_eq_true rfl, Nat.le_of_ble_eq_true rfl, Nat.le_of_ble_eq_true rfl, rfl, by decide⟩ (by omega) (th_38 (d := d - 1) (by omega) hIm36 (a0 := r37) (a1 := r38)      (by omega) (by omega) ) ?_
                        rintro _ m39 ⟨rfl, hIm39, gm39⟩
                        have hFm39 : zFr W_111 m0 m39 := hFm36.trans gm39 rfl
                        show zW E (d) 111 81 [(2, 0), (0, a0), (0, a1), (0, a2), (0, x34)] [] m39 Q
                        refine zw_push zr_111_81 ?_
                        refine zw_R zr_111_82 (by decide) zm_111 (v := (0, 1)) rfl ?_
                        rw [← hQ]; exact ⟨_, rfl, by omega, by omega, hIm39, hFm39⟩
                      · intro h40
                        refine zw_push zr_111_53 ?_
                        refine zw_R zr_111_54 (by decide) zm_111 (v := (0, 0)) rfl ?_
                        rw [← hQ]; exact ⟨_, rfl, by omega, by omega, hI0, hF0⟩
                    · intro h41
                      refine zw_push zr_111_26 ?_
                      refine zw_R zr_111_28 (by decide) zm_111 (v := (0, (-2))) rfl ?_
                      rw [← hQ]; exact ⟨_, rfl, by omega, by omega, hI0, hF0⟩

abbrev W_167 : List (Nat × Nat) := [(69, 5), (69, 6), (69, 7), (69, 9), (69, 11), (69, 13), (69, 17), (69, 18), (73, 1000), (74, 1000), (75, 1000), (76, 1000), (77, 1000), (78, 1000)]
set_option maxHeartbeats 8000000 in
theorem th_167 {E : zE} {d : Nat} {m0 : zM} {a0 : Int} {a1 : Int} (hd : 6 ≤ d) (hI0 : zInv m0) (ha0 : 0 ≤ a0 ∧ a0 ≤ 3) (ha1 : 0 ≤ a1 ∧ a1 ≤ 99) : zC E d 167 [(2, 69), (0, a0), (0, a1)] m0 (fun v m' => v = (9, 0) ∧ zInv m' ∧ zFr W_167 m0 m') := by
  have hF0 : zFr W_167 m0 m0 := zFr.rfl
  generalize hQ : (fun (v : zV) (m' : zM) => v = (9, 0) ∧ zInv m' ∧ zFr W_167 m0 m') = Q
  show zW E d 167 0 [(2, 69), (0, a0), (0, a1), (9, 0)] [] m0 Q
  refine zw_7 zr_167_0 rfl ?_
  refine zw_3 zr_167_1 rfl ?_
  refine zw_C zr_167_2 (Or.inl rfl) zm_164 rfl rfl ⟨Nat.le_of_ble_eq_true rfl, Nat.le_of_ble_eq_true rfl, Nat.le_of_ble_eq_true rfl, rfl, by decide⟩ (by omega) (th_164 (d := d - 1) (by omega) hI0 (a0 := a0)      (by omega) ) ?_
  rintro _ m1 ⟨rfl, hIm1, gm1⟩
  have hFm1 : zFr W_167 m0 m1 := hF0.trans gm1 rfl
  show zW E (d) 167 5 [(2, 69), (0, a0), (0, a1), (9, 0)] [] m1 Q
  refine zw_push zr_167_5 ?_
  refine zw_9 (L' := [(2, 69), (0, a0), (0, a1), (0, 0)]) zr_167_6 (Nat.le_of_ble_eq_true rfl) rfl ?_
  have lp7_4 : ∀ (nlp7_4 : Nat) (i2 : Int) (m3 : zM), zInv m3 → zFr W_167 m0 m3 → 0 ≤ i2 → i2 ≤ 60 → (60 - i2).toNat < nlp7_4 → zW E (d) 167 7 [(2, 69), (0, a0), (0, a1), (0, i2)] [] m3 Q := by
    intro nlp7_4
    induction nlp7_4 with
    | zero =>
      intros
      exact absurd (by assumption : _ < 0) (Nat.not_lt_zero _)
    | succ nlp7_4 ihlp7_4 =>
      intro i2 m3 hIm3 hFm3 li2 ui2 hmlp7_4
      refine zw_3 zr_167_7 rfl ?_
      refine zw_7 zr_167_8 rfl ?_
      refine zw_C zr_167_9 (Or.inl rfl) zm_142 rfl rfl ⟨Nat.le_of_ble_eq_true rfl, Nat.le_of_ble_eq_true rfl, Nat.le_of_ble_eq_true rfl, rfl, by decide⟩ (by omega) (P := (fun v m' => zW E (d) 167 12 [(2, 69), (0, a0), (0, a1), (0, i2)] (if v.1 = 9 then [(0, i2)] else v :: [(0, i2)]) m' Q)) ?_ (fun _ _ h => h)
      generalize hQ1 : (fun v m' => zW E (d) 167 12 [(2, 69), (0, a0), (0, a1), (0, i2)] (if v.1 = 9 then [(0, i2)] else v :: [(0, i2)]) m' Q) = Q1
      show zW E (d - 1) 142 0 [(2, 69)] [] m3 Q1
      refine zw_7 zr_142_0 rfl ?_
      refine zw_46r (s := 70) zr_142_1 rfl rfl rfl rfl ?_
      refine zw_push zr_142_4 ?_
      obtain ⟨f6, ef6⟩ : ∃ v, m3 70 823 = v := ⟨_, rfl⟩
      have bf6 : 0 ≤ m3 70 823 ∧ m3 70 823 ≤ 60 := ib_70_meetings hIm3 (by omega)
      rw [ef6] at bf6
      refine zw_48k (c := 70) (len := 826) zr_142_7 rfl rfl (by omega) (by omega) (show (823 : Int).toNat = 823 by omega) ef6 ?_
      refine zw_R zr_142_8 (by decide) zm_142 (v := (0, f6)) rfl ?_
      rw [← hQ1]
      show zW E (d) 167 12 [(2, 69), (0, a0), (0, a1), (0, i2)] [(0, f6), (0, i2)] m3 Q
      refine zw_41_3 zr_167_12 ?_ ?_
      · intro h7
        refine zw_R zr_167_37 (by decide) zm_167 (v := (9, 0)) rfl ?_
        rw [← hQ]; exact ⟨rfl, hIm3, hFm3⟩
      · intro h8
        refine zw_7 zr_167_15 rfl ?_
        refine zw_3 zr_167_16 rfl ?_
        refine zw_push zr_167_17 ?_
        refine zw_C zr_167_18 (Or.inl rfl) zm_144 rfl rfl ⟨Nat.le_of_ble_eq_true rfl, Nat.le_of_ble_eq_true rfl, Nat.le_of_ble_eq_true rfl, rfl, by decide⟩ (by omega) (P := (fun v m' => zW E (d) 167 21 [(2, 69), (0, a0), (0, a1), (0, i2)] (if v.1 = 9 then [] else v :: []) m' Q)) ?_ (fun _ _ h => h)
        generalize hQ1 : (fun v m' => zW E (d) 167 21 [(2, 69), (0, a0), (0, a1), (0, i2)] (if v.1 = 9 then [] else v :: []) m' Q) = Q1
        show zW E (d - 1) 144 0 [(2, 69), (0, i2), (0, 0)] [] m3 Q1
        refine zw_7 zr_144_0 rfl ?_
        refine zw_46r (s := 70) zr_144_1 rfl rfl rfl rfl ?_
        refine zw_push zr_144_4 ?_
        refine zw_push zr_144_6 ?_
        refine zw_3 zr_144_8 rfl ?_
        refine zw_18 zr_144_9 (by omega) ?_
        refine zw_16 zr_144_10 (by omega) ?_
        refine zw_3 zr_144_11 rfl ?_
        refine zw_16 zr_144_12 (by omega) ?_
        refine zw_48 (c := 70) (len := 826) zr_144_13 rfl rfl (by omega) (by omega) ?_
        intro x9 ex9
        have bx9 := ib_70_m0 hIm3 (k := (((90 + (6 * i2)) + 0)).toNat) (by omega)
        rw [← ex9] at bx9
        clear ex9
        refine zw_R zr_144_14 (by decide) zm_144 (v := (0, x9)) rfl ?_
        rw [← hQ1]
        show zW E (d) 167 21 [(2, 69), (0, a0), (0, a1), (0, i2)] [(0, x9)] m3 Q
        refine zw_3 zr_167_21 rfl ?_
        refine zw_41_2 zr_167_22 ?_ ?_
        · intro h10
          refine zw_R zr_167_37 (by decide) zm_167 (v := (9, 0)) rfl ?_
          rw [← hQ]; exact ⟨rfl, hIm3, hFm3⟩
        · intro h11
          refine zw_7 zr_167_25 rfl ?_
          refine zw_3 zr_167_26 rfl ?_
          refine zw_3 zr_167_27 rfl ?_
          refine zw_C zr_167_28 (Or.inl rfl) zm_166 rfl rfl ⟨Nat.le_of_ble_eq_true rfl, Nat.le_of_ble_eq_true rfl, Nat.le_of_ble_eq_true rfl, rfl, by decide⟩ (by omega) (th_166 (d := d - 1) (by omega) hIm3 (a0 := a0) (a1 := i2)      (by omega) (by omega) ) ?_
          rintro _ m12 ⟨rfl, hIm12, gm12⟩
          have hFm12 : zFr W_167 m0 m12 := hFm3.trans gm12 rfl
          have km12_70_823 : m12 70 823 = f6 := (gm12 70 823 rfl).trans ef6
          show zW E (d) 167 31 [(2, 69), (0, a0), (0, a1), (0, i2)] [] m12 Q
          refine zw_15 (c := 1) (L' := [(2, 69), (0, a0), (0, a1), (0, (i2 + 1))]) zr_167_31 rfl (by decide) (by omega) rfl ?_
          refine zw_42 zr_167_34 ?_
          exact zw_less (L := [(2, 69), (0, a0), (0, a1), (0, (i2 + 1))]) ⟨Or.inr rfl, Or.inr rfl, Or.inr rfl, Or.inr rfl, trivial⟩ (ihlp7_4 ((i2 + 1)) m12 hIm12 hFm12   (by omega) (by omega)  (by omega))
  exact lp7_4 _ (0) m1 hIm1 hFm1   (by omega) (by omega)  (Nat.lt_succ_self _)

abbrev W_173 : List (Nat × Nat) := [(69, 3), (69, 4)]
set_option maxHeartbeats 8000000 in
theorem th_173 {E : zE} {d : Nat} {m0 : zM} {a0 : Int} {a1 : Int} (hd : 1 ≤ d) (hI0 : zInv m0) (ha0 : (-9223372036854775808) ≤ a0 ∧ a0 ≤ 9223372036854775807) (ha1 : 1 ≤ a1 ∧ a1 ≤ 9223372036854775807) : zC E d 173 [(2, 69), (1, a0), (1, a1)] m0 (fun v m' => v = (9, 0) ∧ zInv m' ∧ zFr W_173 m0 m') := by
  have hF0 : zFr W_173 m0 m0 := zFr.rfl
  generalize hQ : (fun (v : zV) (m' : zM) => v = (9, 0) ∧ zInv m' ∧ zFr W_173 m0 m') = Q
  show zW E d 173 0 [(2, 69), (1, a0), (9, 0), (1, a1), (9, 0), (9, 0), (9, 0), (9, 0), (9, 0), (9, 0), (9, 0)] [] m0 Q
  refine zw_5 zr_173_0 rfl ?_
  refine zw_push zr_173_1 ?_
  refine zw_39_3 zr_173_2 zr_173_3 ?_ ?_
  · intro h1
    refine zw_5 zr_173_11 rfl ?_
    refine zw_14 (L' := [(2, 69), (1, a0), (9, 0), (1, a1), (9, 0), (1, a0), (9, 0), (9, 0), (9, 0), (9, 0), (9, 0)]) zr_173_12 (Nat.le_of_ble_eq_true rfl) rfl ?_
    refine zw_5 zr_173_14 rfl ?_
    refine zw_14 (L' := [(2, 69), (1, a0), (9, 0), (1, a1), (9, 0), (1, a0), (9, 0), (1, a1), (9, 0), (9, 0), (9, 0)]) zr_173_15 (Nat.le_of_ble_eq_true rfl) rfl ?_
    have lp17_5 : ∀ (nlp17_5 : Nat) (i2 i3 : Int) (m4 : zM), zInv m4 → zFr W_173 m0 m4 → (-9223372036854775808) ≤ i2 → i2 ≤ 9223372036854775807 → (-9223372036854775808) ≤ i3 → i3 ≤ 9223372036854775807 → (i3 ≠ 0 ∨ i2 ≠ 0) → ((i3.natAbs : Int)).toNat < nlp17_5 → zW E (d) 173 17 [(2, 69), (1, a0), (9, 0), (1, a1), (9, 0), (1, i2), (9, 0), (1, i3), (9, 0), (9, 0), (9, 0)] [] m4 Q := by
      intro nlp17_5
      induction nlp17_5 with
      | zero =>
        intros
        exact absurd (by assumption : _ < 0) (Nat.not_lt_zero _)
      | succ nlp17_5 ihlp17_5 =>
        intro i2 i3 m4 hIm4 hFm4 li2 ui2 li3 ui3 hv0lp17_5 hmlp17_5
        refine zw_6 zr_173_17 rfl ?_
        refine zw_push zr_173_19 ?_
        refine zw_39_1 zr_173_20 zr_173_21 ?_ ?_
        · intro h7
          refine zw_7 zr_173_42 rfl ?_
          refine zw_5 zr_173_43 rfl ?_
          refine zw_6 zr_173_44 rfl ?_
          refine zw_118h zr_173_46 (by omega) ?_
          intro x8 hx8a hx8b
          refine zw_47 (c := 69) zr_173_47 rfl ⟨rfl, by decide, rfl⟩ ?_
          intro m9 em9
          have hIm9 : zInv m9 := by rw [em9]; exact hIm4.anyl (by omega) (by decide) rfl (by decide) (by decide)
          have hFm9 : zFr W_173 m0 m9 := by rw [em9]; exact hFm4.up rfl
          have km9_69_3 : m9 69 3 = x8 := by rw [em9]; exact zUp_eq _ _ _ _
          clear em9
          refine zw_7 zr_173_50 rfl ?_
          refine zw_5 zr_173_51 rfl ?_
          refine zw_6 zr_173_52 rfl ?_
          refine zw_118h zr_173_54 (by omega) ?_
          intro x10 hx10a hx10b
          refine zw_47 (c := 69) zr_173_55 rfl ⟨rfl, by decide, rfl⟩ ?_
          intro m11 em11
          have hIm11 : zInv m11 := by rw [em11]; exact hIm9.anyl (by omega) (by decide) rfl (by decide) (by decide)
          have hFm11 : zFr W_173 m0 m11 := by rw [em11]; exact hFm9.up rfl
          have km11_69_3 : m11 69 3 = x8 := by rw [em11, zUp_ne (by omega)]; exact km9_69_3
          have km11_69_4 : m11 69 4 = x10 := by rw [em11]; exact zUp_eq _ _ _ _
          clear em11
          refine zw_R zr_173_58 (by decide) zm_173 (v := (9, 0)) rfl ?_
          rw [← hQ]; exact ⟨rfl, hIm11, hFm11⟩
        · intro h12
          refine zw_6 zr_173_24 rfl ?_
          refine zw_6 zr_173_26 rfl ?_
          refine zw_119r zr_173_28 (by omega) (by omega) (by omega) ?_
          intro x13 hx13a hx13b hx13c
          refine zw_14 (L' := [(2, 69), (1, a0), (9, 0), (1, a1), (9, 0), (1, i2), (9, 0), (1, i3), (9, 0), (1, x13), (9, 0)]) zr_173_29 (Nat.le_of_ble_eq_true rfl) rfl ?_
          refine zw_6 zr_173_31 rfl ?_
          refine zw_14 (L' := [(2, 69), (1, a0), (9, 0), (1, a1), (9, 0), (1, i3), (9, 0), (1, i3), (9, 0), (1, x13), (9, 0)]) zr_173_33 (Nat.le_of_ble_eq_true rfl) rfl ?_
          refine zw_6 zr_173_35 rfl ?_
          refine zw_14 (L' := [(2, 69), (1, a0), (9, 0), (1, a1), (9, 0), (1, i3), (9, 0), (1, x13), (9, 0), (1, x13), (9, 0)]) zr_173_37 (Nat.le_of_ble_eq_true rfl) rfl ?_
          refine zw_42 zr_173_39 ?_
          exact zw_less (L := [(2, 69), (1, a0), (9, 0), (1, a1), (9, 0), (1, i3), (9, 0), (1, x13), (9, 0), (9, 0), (9, 0)]) ⟨Or.inr rfl, Or.inr rfl, Or.inl rfl, Or.inr rfl, Or.inl rfl, Or.inr rfl, Or.inl rfl, Or.inr rfl, Or.inl rfl, Or.inl rfl, Or.inl rfl, trivial⟩ (ihlp17_5 (i3) (x13) m4 hIm4 hFm4   (by omega) (by omega) (by omega) (by omega) (by omega) (by omega))
    exact lp17_5 _ (a0) (a1) m0 hI0 hF0   (by omega) (by omega) (by omega) (by omega) (by omega) (Nat.lt_succ_self _)
  · intro h14
    refine zw_5 zr_173_6 rfl ?_
    refine zw_117h zr_173_7 ?_
    intro x15 hx15a hx15b
    refine zw_42 zr_173_8 ?_
    refine zw_14 (L' := [(2, 69), (1, a0), (9, 0), (1, a1), (9, 0), (1, x15), (9, 0), (9, 0), (9, 0), (9, 0), (9, 0)]) zr_173_12 (Nat.le_of_ble_eq_true rfl) rfl ?_
    refine zw_5 zr_173_14 rfl ?_
    refine zw_14 (L' := [(2, 69), (1, a0), (9, 0), (1, a1), (9, 0), (1, x15), (9, 0), (1, a1), (9, 0), (9, 0), (9, 0)]) zr_173_15 (Nat.le_of_ble_eq_true rfl) rfl ?_
    have lp17_19 : ∀ (nlp17_19 : Nat) (i16 i17 : Int) (m18 : zM), zInv m18 → zFr W_173 m0 m18 → (-9223372036854775808) ≤ i16 → i16 ≤ 9223372036854775807 → (-9223372036854775808) ≤ i17 → i17 ≤ 9223372036854775807 → (i17 ≠ 0 ∨ i16 ≠ 0) → ((i17.natAbs : Int)).toNat < nlp17_19 → zW E (d) 173 17 [(2, 69), (1, a0), (9, 0), (1, a1), (9, 0), (1, i16), (9, 0), (1, i17), (9, 0), (9, 0), (9, 0)] [] m18 Q := by
      intro nlp17_19
      induction nlp17_19 with
      | zero =>
        intros
        exact absurd (by assumption : _ < 0) (Nat.not_lt_zero _)
      | succ nlp17_19 ihlp17_19 =>
        intro i16 i17 m18 hIm18 hFm18 li16 ui16 li17 ui17 hv0lp17_19 hmlp17_19
        refine zw_6 zr_173_17 rfl ?_
        refine zw_push zr_173_19 ?_
        refine zw_39_1 zr_173_20 zr_173_21 ?_ ?_
        · intro h21
          refine zw_7 zr_173_42 rfl ?_
          refine zw_5 zr_173_43 rfl ?_
          refine zw_6 zr_173_44 rfl ?_
          refine zw_118h zr_173_46 (by omega) ?_
          intro x22 hx22a hx22b
          refine zw_47 (c := 69) zr_173_47 rfl ⟨rfl, by decide, rfl⟩ ?_
          intro m23 em23
          have hIm23 : zInv m23 := by rw [em23]; exact hIm18.anyl (by omega) (by decide) rfl (by decide) (by decide)
          have hFm23 : zFr W_173 m0 m23 := by rw [em23]; exact hFm18.up rfl
          have km23_69_3 : m23 69 3 = x22 := by rw [em23]; exact zUp_eq _ _ _ _
          clear em23
          refine zw_7 zr_173_50 rfl ?_
          refine zw_5 zr_173_51 rfl ?_
          refine zw_6 zr_173_52 rfl ?_
          refine zw_118h zr_173_54 (by omega) ?_
          intro x24 hx24a hx24b
          refine zw_47 (c := 69) zr_173_55 rfl ⟨rfl, by decide, rfl⟩ ?_
          intro m25 em25
          have hIm25 : zInv m25 := by rw [em25]; exact hIm23.anyl (by omega) (by decide) rfl (by decide) (by decide)
          have hFm25 : zFr W_173 m0 m25 := by rw [em25]; exact hFm23.up rfl
          have km25_69_3 : m25 69 3 = x22 := by rw [em25, zUp_ne (by omega)]; exact km23_69_3
          have km25_69_4 : m25 69 4 = x24 := by rw [em25]; exact zUp_eq _ _ _ _
          clear em25
          refine zw_R zr_173_58 (by decide) zm_173 (v := (9, 0)) rfl ?_
          rw [← hQ]; exact ⟨rfl, hIm25, hFm25⟩
        · intro h26
          refine zw_6 zr_173_24 rfl ?_
          refine zw_6 zr_173_26 rfl ?_
          refine zw_119r zr_173_28 (by omega) (by omega) (by omega) ?_
          intro x27 hx27a hx27b hx27c
          refine zw_14 (L' := [(2, 69), (1, a0), (9, 0), (1, a1), (9, 0), (1, i16), (9, 0), (1, i17), (9, 0), (1, x27), (9, 0)]) zr_173_29 (Nat.le_of_ble_eq_true rfl) rfl ?_
          refine zw_6 zr_173_31 rfl ?_
          refine zw_14 (L' := [(2, 69), (1, a0), (9, 0), (1, a1), (9, 0), (1, i17), (9, 0), (1, i17), (9, 0), (1, x27), (9, 0)]) zr_173_33 (Nat.le_of_ble_eq_true rfl) rfl ?_
          refine zw_6 zr_173_35 rfl ?_
          refine zw_14 (L' := [(2, 69), (1, a0), (9, 0), (1, a1), (9, 0), (1, i17), (9, 0), (1, x27), (9, 0), (1, x27), (9, 0)]) zr_173_37 (Nat.le_of_ble_eq_true rfl) rfl ?_
          refine zw_42 zr_173_39 ?_
          exact zw_less (L := [(2, 69), (1, a0), (9, 0), (1, a1), (9, 0), (1, i17), (9, 0), (1, x27), (9, 0), (9, 0), (9, 0)]) ⟨Or.inr rfl, Or.inr rfl, Or.inl rfl, Or.inr rfl, Or.inl rfl, Or.inr rfl, Or.inl rfl, Or.inr rfl, Or.inl rfl, Or.inl rfl, Or.inl rfl, trivial⟩ (ihlp17_19 (i17) (x27) m18 hIm18 hFm18   (by omega) (by omega) (by omega) (by omega) (by omega) (by omega))
    exact lp17_19 _ (x15) (a1) m0 hI0 hF0   (by omega) (by omega) (by omega) (by omega) (by omega) (Nat.lt_succ_self _)

set_option maxHeartbeats 8000000 in
theorem th_172 {E : zE} {d : Nat} {m0 : zM} {a0 : Int} {a1 : Int} {F70 : Nat → Int} (hd : 3 ≤ d) (hI0 : zInv m0) (hG70 : m0 70 = F70) (ha0 : 0 ≤ a0 ∧ a0 ≤ 9) (ha1 : 0 ≤ a1 ∧ a1 ≤ 99) : zC E d 172 [(2, 69), (0, a0), (0, a1)] m0 (fun v m' => ∃ r : Int, v = (0, r) ∧ 0 ≤ r ∧ r ≤ 1 ∧ m0 = m' ∧ (r = hmv F70 a0 a1 (F70 823).toNat)) := by
  generalize hQ : (fun (v : zV) (m' : zM) => ∃ r : Int, v = (0, r) ∧ 0 ≤ r ∧ r ≤ 1 ∧ m0 = m' ∧ (r = hmv F70 a0 a1 (F70 823).toNat)) = Q
  show zW E d 172 0 [(2, 69), (0, a0), (0, a1), (9, 0), (9, 0)] [] m0 Q
  refine zw_push zr_172_0 ?_
  refine zw_9 (L' := [(2, 69), (0, a0), (0, a1), (0, 0), (9, 0)]) zr_172_1 (Nat.le_of_ble_eq_true rfl) rfl ?_
  refine zw_push zr_172_2 ?_
  refine zw_10 (L' := [(2, 69), (0, a0), (0, a1), (0, 0), (0, 0)]) zr_172_3 (Nat.le_of_ble_eq_true rfl) rfl ?_
  have lp5_3 : ∀ (nlp5_3 : Nat) (i1 i2 : Int), 0 ≤ i1 → i1 ≤ 1 → 0 ≤ i2 → i2 ≤ 60 → (i1 = hmv F70 a0 a1 (i2).toNat) → (i2 ≤ m0 70 823) → (60 - i2).toNat < nlp5_3 → zW E (d) 172 5 [(2, 69), (0, a0), (0, a1), (0, i1), (0, i2)] [] m0 Q := by
    intro nlp5_3
    induction nlp5_3 with
    | zero =>
      intros
      exact absurd (by assumption : _ < 0) (Nat.not_lt_zero _)
    | succ nlp5_3 ihlp5_3 =>
      intro i1 i2 li1 ui1 li2 ui2 hv0lp5_3 hv1lp5_3 hmlp5_3
      have z5 := zhm F70 a0 a1 (i2).toNat (i2 + 1).toNat ((90 + (6 * i2)) + 0).toNat ((90 + (6 * i2)) + 1).toNat ((90 + (6 * i2)) + 2).toNat (by omega) (by omega) (by omega) (by omega)
      refine zw_4 zr_172_5 rfl ?_
      refine zw_7 zr_172_7 rfl ?_
      refine zw_C zr_172_8 (Or.inl rfl) zm_142 rfl rfl ⟨Nat.le_of_ble_eq_true rfl, Nat.le_of_ble_eq_true rfl, Nat.le_of_ble_eq_true rfl, rfl, by decide⟩ (by omega) (P := (fun v m' => zW E (d) 172 11 [(2, 69), (0, a0), (0, a1), (0, i1), (0, i2)] (if v.1 = 9 then [(0, i2)] else v :: [(0, i2)]) m' Q)) ?_ (fun _ _ h => h)
      generalize hQ1 : (fun v m' => zW E (d) 172 11 [(2, 69), (0, a0), (0, a1), (0, i1), (0, i2)] (if v.1 = 9 then [(0, i2)] else v :: [(0, i2)]) m' Q) = Q1
      show zW E (d - 1) 142 0 [(2, 69)] [] m0 Q1
      refine zw_7 zr_142_0 rfl ?_
      refine zw_46r (s := 70) zr_142_1 rfl rfl rfl rfl ?_
      refine zw_push zr_142_4 ?_
      obtain ⟨f6, ef6⟩ : ∃ v, m0 70 823 = v := ⟨_, rfl⟩
      have bf6 : 0 ≤ m0 70 823 ∧ m0 70 823 ≤ 60 := ib_70_meetings hI0 (by omega)
      rw [ef6] at bf6
      refine zw_48k (c := 70) (len := 826) zr_142_7 rfl rfl (by omega) (by omega) (show (823 : Int).toNat = 823 by omega) ef6 ?_
      refine zw_R zr_142_8 (by decide) zm_142 (v := (0, f6)) rfl ?_
      rw [← hQ1]
      show zW E (d) 172 11 [(2, 69), (0, a0), (0, a1), (0, i1), (0, i2)] [(0, f6), (0, i2)] m0 Q
      refine zw_41_3 zr_172_11 ?_ ?_
      · intro h7
        refine zw_3 zr_172_51 rfl ?_
        refine zw_R zr_172_52 (by decide) zm_172 (v := (0, i1)) (zRetB (by omega)) ?_
        rw [← hQ]; exact ⟨_, rfl, by omega, by omega, rfl, by rw [show F70 823 = i2 by rw [← hG70]; omega]; omega⟩
      · intro h9
        refine zw_3 zr_172_14 rfl ?_
        refine zw_40_4 zr_172_15 ?_ ?_
        · intro h10
          refine zw_push zr_172_39 ?_
          refine zw_42 zr_172_40 ?_
          refine zw_9 (L' := [(2, 69), (0, a0), (0, a1), (0, 1), (0, i2)]) zr_172_44 (Nat.le_of_ble_eq_true rfl) rfl ?_
          refine zw_15 (c := 1) (L' := [(2, 69), (0, a0), (0, a1), (0, 1), (0, (i2 + 1))]) zr_172_45 rfl (by decide) (by omega) rfl ?_
          refine zw_42 zr_172_48 ?_
          exact zw_less (L := [(2, 69), (0, a0), (0, a1), (0, 1), (0, (i2 + 1))]) ⟨Or.inr rfl, Or.inr rfl, Or.inr rfl, Or.inr rfl, Or.inr rfl, trivial⟩ (ihlp5_3 (1) ((i2 + 1))  (by omega) (by omega) (by omega) (by omega) (by omega) (by omega) (by omega))
        · intro h11
          refine zw_7 zr_172_18 rfl ?_
          refine zw_4 zr_172_19 rfl ?_
          refine zw_push zr_172_21 ?_
          refine zw_C zr_172_22 (Or.inl rfl) zm_144 rfl rfl ⟨Nat.le_of_ble_eq_true rfl, Nat.le_of_ble_eq_true rfl, Nat.le_of_ble_eq_true rfl, rfl, by decide⟩ (by omega) (P := (fun v m' => zW E (d) 172 25 [(2, 69), (0, a0), (0, a1), (0, i1), (0, i2)] (if v.1 = 9 then [] else v :: []) m' Q)) ?_ (fun _ _ h => h)
          generalize hQ1 : (fun v m' => zW E (d) 172 25 [(2, 69), (0, a0), (0, a1), (0, i1), (0, i2)] (if v.1 = 9 then [] else v :: []) m' Q) = Q1
          show zW E (d - 1) 144 0 [(2, 69), (0, i2), (0, 0)] [] m0 Q1
          refine zw_7 zr_144_0 rfl ?_
          refine zw_46r (s := 70) zr_144_1 rfl rfl rfl rfl ?_
          refine zw_push zr_144_4 ?_
          refine zw_push zr_144_6 ?_
          refine zw_3 zr_144_8 rfl ?_
          refine zw_18 zr_144_9 (by omega) ?_
          refine zw_16 zr_144_10 (by omega) ?_
          refine zw_3 zr_144_11 rfl ?_
          refine zw_16 zr_144_12 (by omega) ?_
          refine zw_48 (c := 70) (len := 826) zr_144_13 rfl rfl (by omega) (by omega) ?_
          intro x12 ex12
          have bx12 := ib_70_m0 hI0 (k := (((90 + (6 * i2)) + 0)).toNat) (by omega)
          rw [← ex12] at bx12
          have qx12 : x12 = F70 (((90 + (6 * i2)) + 0)).toNat := by rw [← hG70]; exact ex12
          clear ex12
          refine zw_R zr_144_14 (by decide) zm_144 (v := (0, x12)) rfl ?_
          rw [← hQ1]
          show zW E (d) 172 25 [(2, 69), (0, a0), (0, a1), (0, i1), (0, i2)] [(0, x12)] m0 Q
          refine zw_3 zr_172_25 rfl ?_
          refine zw_41_4 zr_172_26 ?_ ?_
          · intro h13
            refine zw_push zr_172_43 ?_
            refine zw_9 (L' := [(2, 69), (0, a0), (0, a1), (0, 0), (0, i2)]) zr_172_44 (Nat.le_of_ble_eq_true rfl) rfl ?_
            refine zw_15 (c := 1) (L' := [(2, 69), (0, a0), (0, a1), (0, 0), (0, (i2 + 1))]) zr_172_45 rfl (by decide) (by omega) rfl ?_
            refine zw_42 zr_172_48 ?_
            exact zw_less (L := [(2, 69), (0, a0), (0, a1), (0, 0), (0, (i2 + 1))]) ⟨Or.inr rfl, Or.inr rfl, Or.inr rfl, Or.inr rfl, Or.inr rfl, trivial⟩ (ihlp5_3 (0) ((i2 + 1))  (by omega) (by omega) (by omega) (by omega) (by omega) (by omega) (by omega))
          · intro h14
            refine zw_7 zr_172_29 rfl ?_
            refine zw_4 zr_172_30 rfl ?_
            refine zw_3 zr_172_32 rfl ?_
            refine zw_C zr_172_33 (Or.inl rfl) zm_171 rfl rfl ⟨Nat.le_of_ble_eq_true rfl, Nat.le_of_ble_eq_true rfl, Nat.le_of_ble_eq_true rfl, rfl, by decide⟩ (by omega) (P := (fun v m' => zW E (d) 172 36 [(2, 69), (0, a0), (0, a1), (0, i1), (0, i2)] (if v.1 = 9 then [] else v :: []) m' Q)) ?_ (fun _ _ h => h)
            generalize hQ1 : (fun v m' => zW E (d) 172 36 [(2, 69), (0, a0), (0, a1), (0, i1), (0, i2)] (if v.1 = 9 then [] else v :: []) m' Q) = Q1
            show zW E (d - 1) 171 0 [(2, 69), (0, i2), (0, a0)] [] m0 Q1
            refine zw_7 zr_171_0 rfl ?_
            refine zw_3 zr_171_1 rfl ?_
            refine zw_push zr_171_2 ?_
            refine zw_C zr_171_3 (Or.inl rfl) zm_144 rfl rfl ⟨Nat.le_of_ble_eq_true rfl, Nat.le_of_ble_eq_true rfl, Nat.le_of_ble_eq_true rfl, rfl, by decide⟩ (by omega) (P := (fun v m' => zW E (d - 1) 171 6 [(2, 69), (0, i2), (0, a0)] (if v.1 = 9 then [] else v :: []) m' Q1)) ?_ (fun _ _ h => h)
            generalize hQ2 : (fun v m' => zW E (d - 1) 171 6 [(2, 69), (0, i2), (0, a0)] (if v.1 = 9 then [] else v :: []) m' Q1) = Q2
            show zW E (d - 1 - 1) 144 0 [(2, 69), (0, i2), (0, 1)] [] m0 Q2
            refine zw_7 zr_144_0 rfl ?_
            refine zw_46r (s := 70) zr_144_1 rfl rfl rfl rfl ?_
            refine zw_push zr_144_4 ?_
            refine zw_push zr_144_6 ?_
            refine zw_3 zr_144_8 rfl ?_
            refine zw_18 zr_144_9 (by omega) ?_
            refine zw_16 zr_144_10 (by omega) ?_
            refine zw_3 zr_144_11 rfl ?_
            refine zw_16 zr_144_12 (by omega) ?_
            refine zw_48 (c := 70) (len := 826) zr_144_13 rfl rfl (by omega) (by omega) ?_
            intro x15 ex15
            have bx15 := ib_70_m1 hI0 (k := (((90 + (6 * i2)) + 1)).toNat) (by omega)
            rw [← ex15] at bx15
            have qx15 : x15 = F70 (((90 + (6 * i2)) + 1)).toNat := by rw [← hG70]; exact ex15
            clear ex15
            refine zw_R zr_144_14 (by decide) zm_144 (v := (0, x15)) rfl ?_
            rw [← hQ2]
            show zW E (d - 1) 171 6 [(2, 69), (0, i2), (0, a0)] [(0, x15)] m0 Q1
            refine zw_3 zr_171_6 rfl ?_
            refine zw_41_1 zr_171_7 ?_ ?_
            · intro h16
              refine zw_push zr_171_20 ?_
              refine zw_42 zr_171_21 ?_
              refine zw_R zr_171_25 (by decide) zm_171 (v := (0, 1)) (zRetB (by omega)) ?_
              rw [← hQ1]
              show zW E (d) 172 36 [(2, 69), (0, a0), (0, a1), (0, i1), (0, i2)] [(0, 1)] m0 Q
              refine zw_40_1 zr_172_36 ?_ ?_
              · intro h17; omega
              · intro h18
                refine zw_push zr_172_39 ?_
                refine zw_42 zr_172_40 ?_
                refine zw_9 (L' := [(2, 69), (0, a0), (0, a1), (0, 1), (0, i2)]) zr_172_44 (Nat.le_of_ble_eq_true rfl) rfl ?_
                refine zw_15 (c := 1) (L' := [(2, 69), (0, a0), (0, a1), (0, 1), (0, (i2 + 1))]) zr_172_45 rfl (by decide) (by omega) rfl ?_
                refine zw_42 zr_172_48 ?_
                exact zw_less (L := [(2, 69), (0, a0), (0, a1), (0, 1), (0, (i2 + 1))]) ⟨Or.inr rfl, Or.inr rfl, Or.inr rfl, Or.inr rfl, Or.inr rfl, trivial⟩ (ihlp5_3 (1) ((i2 + 1))  (by omega) (by omega) (by omega) (by omega) (by omega) (by omega) (by omega))
            · intro h19
              refine zw_7 zr_171_10 rfl ?_
              refine zw_3 zr_171_11 rfl ?_
              refine zw_push zr_171_12 ?_
              refine zw_C zr_171_13 (Or.inl rfl) zm_144 rfl rfl ⟨Nat.le_of_ble_eq_true rfl, Nat.le_of_ble_eq_true rfl, Nat.le_of_ble_eq_true rfl, rfl, by decide⟩ (by omega) (P := (fun v m' => zW E (d - 1) 171 16 [(2, 69), (0, i2), (0, a0)] (if v.1 = 9 then [] else v :: []) m' Q1)) ?_ (fun _ _ h => h)
              generalize hQ2 : (fun v m' => zW E (d - 1) 171 16 [(2, 69), (0, i2), (0, a0)] (if v.1 = 9 then [] else v :: []) m' Q1) = Q2
              show zW E (d - 1 - 1) 144 0 [(2, 69), (0, i2), (0, 2)] [] m0 Q2
              refine zw_7 zr_144_0 rfl ?_
              refine zw_46r (s := 70) zr_144_1 rfl rfl rfl rfl ?_
              refine zw_push zr_144_4 ?_
              refine zw_push zr_144_6 ?_
              refine zw_3 zr_144_8 rfl ?_
              refine zw_18 zr_144_9 (by omega) ?_
              refine zw_16 zr_144_10 (by omega) ?_
              refine zw_3 zr_144_11 rfl ?_
              refine zw_16 zr_144_12 (by omega) ?_
              refine zw_48 (c := 70) (len := 826) zr_144_13 rfl rfl (by omega) (by omega) ?_
              intro x20 ex20
              have bx20 := ib_70_m2 hI0 (k := (((90 + (6 * i2)) + 2)).toNat) (by omega)
              rw [← ex20] at bx20
              have qx20 : x20 = F70 (((90 + (6 * i2)) + 2)).toNat := by rw [← hG70]; exact ex20
              clear ex20
              refine zw_R zr_144_14 (by decide) zm_144 (v := (0, x20)) rfl ?_
              rw [← hQ2]
              show zW E (d - 1) 171 16 [(2, 69), (0, i2), (0, a0)] [(0, x20)] m0 Q1
              refine zw_3 zr_171_16 rfl ?_
              refine zw_41_4 zr_171_17 ?_ ?_
              · intro h21
                refine zw_push zr_171_24 ?_
                refine zw_R zr_171_25 (by decide) zm_171 (v := (0, 0)) (zRetB (by omega)) ?_
                rw [← hQ1]
                show zW E (d) 172 36 [(2, 69), (0, a0), (0, a1), (0, i1), (0, i2)] [(0, 0)] m0 Q
                refine zw_40_1 zr_172_36 ?_ ?_
                · intro h22
                  refine zw_push zr_172_43 ?_
                  refine zw_9 (L' := [(2, 69), (0, a0), (0, a1), (0, 0), (0, i2)]) zr_172_44 (Nat.le_of_ble_eq_true rfl) rfl ?_
                  refine zw_15 (c := 1) (L' := [(2, 69), (0, a0), (0, a1), (0, 0), (0, (i2 + 1))]) zr_172_45 rfl (by decide) (by omega) rfl ?_
                  refine zw_42 zr_172_48 ?_
                  exact zw_less (L := [(2, 69), (0, a0), (0, a1), (0, 0), (0, (i2 + 1))]) ⟨Or.inr rfl, Or.inr rfl, Or.inr rfl, Or.inr rfl, Or.inr rfl, trivial⟩ (ihlp5_3 (0) ((i2 + 1))  (by omega) (by omega) (by omega) (by omega) (by omega) (by omega) (by omega))
                · intro h23; omega
              · intro h24
                refine zw_push zr_171_20 ?_
                refine zw_42 zr_171_21 ?_
                refine zw_R zr_171_25 (by decide) zm_171 (v := (0, 1)) (zRetB (by omega)) ?_
                rw [← hQ1]
                show zW E (d) 172 36 [(2, 69), (0, a0), (0, a1), (0, i1), (0, i2)] [(0, 1)] m0 Q
                refine zw_40_1 zr_172_36 ?_ ?_
                · intro h25; omega
                · intro h26
                  refine zw_push zr_172_39 ?_
                  refine zw_42 zr_172_40 ?_
                  refine zw_9 (L' := [(2, 69), (0, a0), (0, a1), (0, 1), (0, i2)]) zr_172_44 (Nat.le_of_ble_eq_true rfl) rfl ?_
                  refine zw_15 (c := 1) (L' := [(2, 69), (0, a0), (0, a1), (0, 1), (0, (i2 + 1))]) zr_172_45 rfl (by decide) (by omega) rfl ?_
                  refine zw_42 zr_172_48 ?_
                  exact zw_less (L := [(2, 69), (0, a0), (0, a1), (0, 1), (0, (i2 + 1))]) ⟨Or.inr rfl, Or.inr rfl, Or.inr rfl, Or.inr rfl, Or.inr rfl, trivial⟩ (ihlp5_3 (1) ((i2 + 1))  (by omega) (by omega) (by omega) (by omega) (by omega) (by omega) (by omega))
  exact lp5_3 _ (0) (0)  (by omega) (by omega) (by omega) (by omega) (by simp only [hmv, Int.toNat_zero]) (by have := ib_70_meetings hI0 (k := 823) rfl; omega) (Nat.lt_succ_self _)

abbrev W_174 : List (Nat × Nat) := [(69, 3), (69, 4), (69, 5), (69, 6), (69, 7), (69, 9), (69, 11), (69, 13), (69, 17), (69, 18), (73, 1000), (74, 1000), (75, 1000), (76, 1000), (77, 1000), (78, 1000), (79, 1000)]
set_option maxHeartbeats 8000000 in
theorem th_174 {E : zE} {d : Nat} {m0 : zM} {a0 : Int} {a1 : Int} {a2 : Int} (hd : 7 ≤ d) (hI0 : zInv m0) (ha0 : (-2147483648) ≤ a0 ∧ a0 ≤ 2147483647) (ha1 : (-2147483648) ≤ a1 ∧ a1 ≤ 2147483647) (ha2 : (-2147483648) ≤ a2 ∧ a2 ≤ 2147483647) : zC E d 174 [(2, 69), (0, a0), (0, a1), (0, a2)] m0 (fun v m' => ∃ r : Int, v = (0, r) ∧ (-2) ≤ r ∧ r ≤ 1 ∧ zInv m' ∧ zFr W_174 m0 m') := by
  have hF0 : zFr W_174 m0 m0 := zFr.rfl
  generalize hQ : (fun (v : zV) (m' : zM) => ∃ r : Int, v = (0, r) ∧ (-2) ≤ r ∧ r ≤ 1 ∧ zInv m' ∧ zFr W_174 m0 m') = Q
  show zW E d 174 0 [(2, 69), (0, a0), (0, a1), (0, a2), (9, 0), (9, 0), (9, 0), (9, 0)] [] m0 Q
  refine zw_3 zr_174_0 rfl ?_
  refine zw_C zr_174_1 (Or.inr rfl) zm_148 rfl rfl ⟨Nat.le_of_ble_eq_true rfl, Nat.le_of_ble_eq_true rfl, Nat.le_of_ble_eq_true rfl, rfl, by decide⟩ (by omega) (P := (fun v m' => zW E (d) 174 4 [(2, 69), (0, a0), (0, a1), (0, a2), (9, 0), (9, 0), (9, 0), (9, 0)] (if v.1 = 9 then [] else v :: []) m' Q)) ?_ (fun _ _ h => h)
  generalize hQ1 : (fun v m' => zW E (d) 174 4 [(2, 69), (0, a0), (0, a1), (0, a2), (9, 0), (9, 0), (9, 0), (9, 0)] (if v.1 = 9 then [] else v :: []) m' Q) = Q1
  show zW E (d - 1) 148 0 [(0, a0)] [] m0 Q1
  refine zw_3 zr_148_0 rfl ?_
  refine zw_36 zr_148_1 ?_
  refine zw_push zr_148_2 ?_
  refine zw_push zr_148_3 ?_
  refine zw_C zr_148_6 (Or.inr rfl) zm_140 rfl rfl ⟨Nat.le_of_ble_eq_true rfl, Nat.le_of_ble_eq_true rfl, Nat.le_of_ble_eq_true rfl, rfl, by decide⟩ (by omega) (P := (fun v m' => zW E (d - 1) 148 9 [(0, a0)] (if v.1 = 9 then [] else v :: []) m' Q1)) ?_ (fun _ _ h => h)
  generalize hQ2 : (fun v m' => zW E (d - 1) 148 9 [(0, a0)] (if v.1 = 9 then [] else v :: []) m' Q1) = Q2
  show zW E (d - 1 - 1) 140 0 [(1, a0), (9, 0), (1, 0), (9, 0), (1, 3), (9, 0)] [] m0 Q2
  refine zw_5 zr_140_0 rfl ?_
  refine zw_5 zr_140_1 rfl ?_
  refine zw_39_0 zr_140_2 zr_140_3 ?_ ?_
  · intro h1
    refine zw_push zr_140_17 ?_
    refine zw_R zr_140_18 (by decide) zm_140 (v := (0, 0)) (zRetB (by omega)) ?_
    rw [← hQ2]
    show zW E (d - 1) 148 9 [(0, a0)] [(0, 0)] m0 Q1
    refine zw_R zr_148_9 (by decide) zm_148 (v := (0, 0)) (zRetB (by omega)) ?_
    rw [← hQ1]
    show zW E (d) 174 4 [(2, 69), (0, a0), (0, a1), (0, a2), (9, 0), (9, 0), (9, 0), (9, 0)] [(0, 0)] m0 Q
    refine zw_40_1 zr_174_4 ?_ ?_
    · intro h2
      refine zw_push zr_174_29 ?_
      refine zw_R zr_174_31 (by decide) zm_174 (v := (0, (-2))) rfl ?_
      rw [← hQ]; exact ⟨_, rfl, by omega, by omega, hI0, hF0⟩
    · intro h3; omega
  · intro h4
    refine zw_5 zr_140_6 rfl ?_
    refine zw_6 zr_140_7 rfl ?_
    refine zw_39_2 zr_140_9 zr_140_10 ?_ ?_
    · intro h5
      refine zw_push zr_140_17 ?_
      refine zw_R zr_140_18 (by decide) zm_140 (v := (0, 0)) (zRetB (by omega)) ?_
      rw [← hQ2]
      show zW E (d - 1) 148 9 [(0, a0)] [(0, 0)] m0 Q1
      refine zw_R zr_148_9 (by decide) zm_148 (v := (0, 0)) (zRetB (by omega)) ?_
      rw [← hQ1]
      show zW E (d) 174 4 [(2, 69), (0, a0), (0, a1), (0, a2), (9, 0), (9, 0), (9, 0), (9, 0)] [(0, 0)] m0 Q
      refine zw_40_1 zr_174_4 ?_ ?_
      · intro h6
        refine zw_push zr_174_29 ?_
        refine zw_R zr_174_31 (by decide) zm_174 (v := (0, (-2))) rfl ?_
        rw [← hQ]; exact ⟨_, rfl, by omega, by omega, hI0, hF0⟩
      · intro h7; omega
    · intro h8
      refine zw_push zr_140_13 ?_
      refine zw_42 zr_140_14 ?_
      refine zw_R zr_140_18 (by decide) zm_140 (v := (0, 1)) (zRetB (by omega)) ?_
      rw [← hQ2]
      show zW E (d - 1) 148 9 [(0, a0)] [(0, 1)] m0 Q1
      refine zw_R zr_148_9 (by decide) zm_148 (v := (0, 1)) (zRetB (by omega)) ?_
      rw [← hQ1]
      show zW E (d) 174 4 [(2, 69), (0, a0), (0, a1), (0, a2), (9, 0), (9, 0), (9, 0), (9, 0)] [(0, 1)] m0 Q
      refine zw_40_1 zr_174_4 ?_ ?_
      · intro h9; omega
      · intro h10
        refine zw_3 zr_174_7 rfl ?_
        refine zw_C zr_174_8 (Or.inr rfl) zm_169 rfl rfl ⟨Nat.le_of_ble_eq_true rfl, Nat.le_of_ble_eq_true rfl, Nat.le_of_ble_eq_true rfl, rfl, by decide⟩ (by omega) (P := (fun v m' => zW E (d) 174 11 [(2, 69), (0, a0), (0, a1), (0, a2), (9, 0), (9, 0), (9, 0), (9, 0)] (if v.1 = 9 then [] else v :: []) m' Q)) ?_ (fun _ _ h => h)
        generalize hQ1 : (fun v m' => zW E (d) 174 11 [(2, 69), (0, a0), (0, a1), (0, a2), (9, 0), (9, 0), (9, 0), (9, 0)] (if v.1 = 9 then [] else v :: []) m' Q) = Q1
        show zW E (d - 1) 169 0 [(0, a1)] [] m0 Q1
        refine zw_3 zr_169_0 rfl ?_
        refine zw_36 zr_169_1 ?_
        refine zw_push zr_169_2 ?_
        refine zw_push zr_169_3 ?_
        refine zw_C zr_169_6 (Or.inr rfl) zm_140 rfl rfl ⟨Nat.le_of_ble_eq_true rfl, Nat.le_of_ble_eq_true rfl, Nat.le_of_ble_eq_true rfl, rfl, by decide⟩ (by omega) (P := (fun v m' => zW E (d - 1) 169 9 [(0, a1)] (if v.1 = 9 then [] else v :: []) m' Q1)) ?_ (fun _ _ h => h)
        generalize hQ2 : (fun v m' => zW E (d - 1) 169 9 [(0, a1)] (if v.1 = 9 then [] else v :: []) m' Q1) = Q2
        show zW E (d - 1 - 1) 140 0 [(1, a1), (9, 0), (1, 0), (9, 0), (1, 99), (9, 0)] [] m0 Q2
        refine zw_5 zr_140_0 rfl ?_
        refine zw_5 zr_140_1 rfl ?_
        refine zw_39_0 zr_140_2 zr_140_3 ?_ ?_
        · intro h11
          refine zw_push zr_140_17 ?_
          refine zw_R zr_140_18 (by decide) zm_140 (v := (0, 0)) (zRetB (by omega)) ?_
          rw [← hQ2]
          show zW E (d - 1) 169 9 [(0, a1)] [(0, 0)] m0 Q1
          refine zw_R zr_169_9 (by decide) zm_169 (v := (0, 0)) (zRetB (by omega)) ?_
          rw [← hQ1]
          show zW E (d) 174 11 [(2, 69), (0, a0), (0, a1), (0, a2), (9, 0), (9, 0), (9, 0), (9, 0)] [(0, 0)] m0 Q
          refine zw_40_1 zr_174_11 ?_ ?_
          · intro h12
            refine zw_push zr_174_29 ?_
            refine zw_R zr_174_31 (by decide) zm_174 (v := (0, (-2))) rfl ?_
            rw [← hQ]; exact ⟨_, rfl, by omega, by omega, hI0, hF0⟩
          · intro h13; omega
        · intro h14
          refine zw_5 zr_140_6 rfl ?_
          refine zw_6 zr_140_7 rfl ?_
          refine zw_39_2 zr_140_9 zr_140_10 ?_ ?_
          · intro h15
            refine zw_push zr_140_17 ?_
            refine zw_R zr_140_18 (by decide) zm_140 (v := (0, 0)) (zRetB (by omega)) ?_
            rw [← hQ2]
            show zW E (d - 1) 169 9 [(0, a1)] [(0, 0)] m0 Q1
            refine zw_R zr_169_9 (by decide) zm_169 (v := (0, 0)) (zRetB (by omega)) ?_
            rw [← hQ1]
            show zW E (d) 174 11 [(2, 69), (0, a0), (0, a1), (0, a2), (9, 0), (9, 0), (9, 0), (9, 0)] [(0, 0)] m0 Q
            refine zw_40_1 zr_174_11 ?_ ?_
            · intro h16
              refine zw_push zr_174_29 ?_
              refine zw_R zr_174_31 (by decide) zm_174 (v := (0, (-2))) rfl ?_
              rw [← hQ]; exact ⟨_, rfl, by omega, by omega, hI0, hF0⟩
            · intro h17; omega
          · intro h18
            refine zw_push zr_140_13 ?_
            refine zw_42 zr_140_14 ?_
            refine zw_R zr_140_18 (by decide) zm_140 (v := (0, 1)) (zRetB (by omega)) ?_
            rw [← hQ2]
            show zW E (d - 1) 169 9 [(0, a1)] [(0, 1)] m0 Q1
            refine zw_R zr_169_9 (by decide) zm_169 (v := (0, 1)) (zRetB (by omega)) ?_
            rw [← hQ1]
            show zW E (d) 174 11 [(2, 69), (0, a0), (0, a1), (0, a2), (9, 0), (9, 0), (9, 0), (9, 0)] [(0, 1)] m0 Q
            refine zw_40_1 zr_174_11 ?_ ?_
            · intro h19; omega
            · intro h20
              refine zw_3 zr_174_14 rfl ?_
              refine zw_36 zr_174_15 ?_
              refine zw_3 zr_174_16 rfl ?_
              refine zw_36 zr_174_17 ?_
              refine zw_push zr_174_18 ?_
              refine zw_27 zr_174_19 (by omega) ?_
              refine zw_push zr_174_20 ?_
              refine zw_C zr_174_23 (Or.inr rfl) zm_140 rfl rfl ⟨Nat.le_of_ble_eq_true rfl, Nat.le_of_ble_eq_true rfl, Nat.le_of_ble_eq_true rfl, rfl, by decide⟩ (by omega) (P := (fun v m' => zW E (d) 174 26 [(2, 69), (0, a0), (0, a1), (0, a2), (9, 0), (9, 0), (9, 0), (9, 0)] (if v.1 = 9 then [] else v :: []) m' Q)) ?_ (fun _ _ h => h)
              generalize hQ1 : (fun v m' => zW E (d) 174 26 [(2, 69), (0, a0), (0, a1), (0, a2), (9, 0), (9, 0), (9, 0), (9, 0)] (if v.1 = 9 then [] else v :: []) m' Q) = Q1
              show zW E (d - 1) 140 0 [(1, a2), (9, 0), (1, (a1 + 1)), (9, 0), (1, 99), (9, 0)] [] m0 Q1
              refine zw_5 zr_140_0 rfl ?_
              refine zw_5 zr_140_1 rfl ?_
              refine zw_39_0 zr_140_2 zr_140_3 ?_ ?_
              · intro h21
                refine zw_push zr_140_17 ?_
                refine zw_R zr_140_18 (by decide) zm_140 (v := (0, 0)) (zRetB (by omega)) ?_
                rw [← hQ1]
                show zW E (d) 174 26 [(2, 69), (0, a0), (0, a1), (0, a2), (9, 0), (9, 0), (9, 0), (9, 0)] [(0, 0)] m0 Q
                refine zw_40_4 zr_174_26 ?_ ?_
                · intro h22; omega
                · intro h23
                  refine zw_push zr_174_29 ?_
                  refine zw_R zr_174_31 (by decide) zm_174 (v := (0, (-2))) rfl ?_
                  rw [← hQ]; exact ⟨_, rfl, by omega, by omega, hI0, hF0⟩
              · intro h24
                refine zw_5 zr_140_6 rfl ?_
                refine zw_6 zr_140_7 rfl ?_
                refine zw_39_2 zr_140_9 zr_140_10 ?_ ?_
                · intro h25
                  refine zw_push zr_140_17 ?_
                  refine zw_R zr_140_18 (by decide) zm_140 (v := (0, 0)) (zRetB (by omega)) ?_
                  rw [← hQ1]
                  show zW E (d) 174 26 [(2, 69), (0, a0), (0, a1), (0, a2), (9, 0), (9, 0), (9, 0), (9, 0)] [(0, 0)] m0 Q
                  refine zw_40_4 zr_174_26 ?_ ?_
                  · intro h26; omega
                  · intro h27
                    refine zw_push zr_174_29 ?_
                    refine zw_R zr_174_31 (by decide) zm_174 (v := (0, (-2))) rfl ?_
                    rw [← hQ]; exact ⟨_, rfl, by omega, by omega, hI0, hF0⟩
                · intro h28
                  refine zw_push zr_140_13 ?_
                  refine zw_42 zr_140_14 ?_
                  refine zw_R zr_140_18 (by decide) zm_140 (v := (0, 1)) (zRetB (by omega)) ?_
                  rw [← hQ1]
                  show zW E (d) 174 26 [(2, 69), (0, a0), (0, a1), (0, a2), (9, 0), (9, 0), (9, 0), (9, 0)] [(0, 1)] m0 Q
                  refine zw_40_4 zr_174_26 ?_ ?_
                  · intro h29
                    refine zw_7 zr_174_32 rfl ?_
                    refine zw_3 zr_174_33 rfl ?_
                    refine zw_3 zr_174_34 rfl ?_
                    refine zw_C zr_174_35 (Or.inl rfl) zm_167 rfl rfl ⟨Nat.le_of_ble_eq_true rfl, Nat.le_of_ble_eq_true rfl, Nat.le_of_ble_eq_true rfl, rfl, by decide⟩ (by omega) (th_167 (d := d - 1) (by omega) hI0 (a0 := a0) (a1 := a1)      (by omega) (by omega) ) ?_
                    rintro _ m30 ⟨rfl, hIm30, gm30⟩
                    have hFm30 : zFr W_174 m0 m30 := hF0.trans gm30 rfl
                    show zW E (d) 174 38 [(2, 69), (0, a0), (0, a1), (0, a2), (9, 0), (9, 0), (9, 0), (9, 0)] [] m30 Q
                    refine zw_push zr_174_38 ?_
                    refine zw_10 (L' := [(2, 69), (0, a0), (0, a1), (0, a2), (0, 0), (9, 0), (9, 0), (9, 0)]) zr_174_39 (Nat.le_of_ble_eq_true rfl) rfl ?_
                    have lp41_33 : ∀ (nlp41_33 : Nat) (i31 : Int) (m32 : zM), zInv m32 → zFr W_174 m0 m32 → 0 ≤ i31 → i31 ≤ 10 → (10 - i31).toNat < nlp41_33 → zW E (d) 174 41 [(2, 69), (0, a0), (0, a1), (0, a2), (0, i31), (9, 0), (9, 0), (9, 0)] [] m32 Q := by
                      intro nlp41_33
                      induction nlp41_33 with
                      | zero =>
                        intros
                        exact absurd (by assumption : _ < 0) (Nat.not_lt_zero _)
                      | succ nlp41_33 ihlp41_33 =>
                        intro i31 m32 hIm32 hFm32 li31 ui31 hmlp41_33
                        refine zw_4 zr_174_41 rfl ?_
                        refine zw_7 zr_174_43 rfl ?_
                        refine zw_C zr_174_44 (Or.inl rfl) zm_141 rfl rfl ⟨Nat.le_of_ble_eq_true rfl, Nat.le_of_ble_eq_true rfl, Nat.le_of_ble_eq_true rfl, rfl, by decide⟩ (by omega) (P := (fun v m' => zW E (d) 174 47 [(2, 69), (0, a0), (0, a1), (0, a2), (0, i31), (9, 0), (9, 0), (9, 0)] (if v.1 = 9 then [(0, i31)] else v :: [(0, i31)]) m' Q)) ?_ (fun _ _ h => h)
                        generalize hQ1 : (fun v m' => zW E (d) 174 47 [(2, 69), (0, a0), (0, a1), (0, a2), (0, i31), (9, 0), (9, 0), (9, 0)] (if v.1 = 9 then [(0, i31)] else v :: [(0, i31)]) m' Q) = Q1
                        show zW E (d - 1) 141 0 [(2, 69)] [] m32 Q1
                        refine zw_7 zr_141_0 rfl ?_
                        refine zw_46r (s := 70) zr_141_1 rfl rfl rfl rfl ?_
                        refine zw_push zr_141_4 ?_
                        obtain ⟨f35, ef35⟩ : ∃ v, m32 70 822 = v := ⟨_, rfl⟩
                        have bf35 : 0 ≤ m32 70 822 ∧ m32 70 822 ≤ 10 := ib_70_players hIm32 (by omega)
                        rw [ef35] at bf35
                        refine zw_48k (c := 70) (len := 826) zr_141_7 rfl rfl (by omega) (by omega) (show (822 : Int).toNat = 822 by omega) ef35 ?_
                        refine zw_R zr_141_8 (by decide) zm_141 (v := (0, f35)) rfl ?_
                        rw [← hQ1]
                        show zW E (d) 174 47 [(2, 69), (0, a0), (0, a1), (0, a2), (0, i31), (9, 0), (9, 0), (9, 0)] [(0, f35), (0, i31)] m32 Q
                        refine zw_41_3 zr_174_47 ?_ ?_
                        · intro h36
                          refine zw_7 zr_174_70 rfl ?_
                          refine zw_3 zr_174_71 rfl ?_
                          refine zw_3 zr_174_72 rfl ?_
                          refine zw_C zr_174_73 (Or.inl rfl) zm_167 rfl rfl ⟨Nat.le_of_ble_eq_true rfl, Nat.le_of_ble_eq_true rfl, Nat.le_of_ble_eq_true rfl, rfl, by decide⟩ (by omega) (th_167 (d := d - 1) (by omega) hIm32 (a0 := a0) (a1 := a2)      (by omega) (by omega) ) ?_
                          rintro _ m37 ⟨rfl, hIm37, gm37⟩
                          have hFm37 : zFr W_174 m0 m37 := hFm32.trans gm37 rfl
                          have km37_70_822 : m37 70 822 = f35 := (gm37 70 822 rfl).trans ef35
                          show zW E (d) 174 76 [(2, 69), (0, a0), (0, a1), (0, a2), (0, i31), (9, 0), (9, 0), (9, 0)] [] m37 Q
                          refine zw_push zr_174_76 ?_
                          refine zw_10 (L' := [(2, 69), (0, a0), (0, a1), (0, a2), (0, 0), (9, 0), (9, 0), (9, 0)]) zr_174_77 (Nat.le_of_ble_eq_true rfl) rfl ?_
                          refine zw_push zr_174_79 ?_
                          refine zw_14 (L' := [(2, 69), (0, a0), (0, a1), (0, a2), (0, 0), (1, 0), (9, 0), (9, 0)]) zr_174_80 (Nat.le_of_ble_eq_true rfl) rfl ?_
                          refine zw_push zr_174_82 ?_
                          refine zw_10 (L' := [(2, 69), (0, a0), (0, a1), (0, a2), (0, 0), (1, 0), (9, 0), (0, 0)]) zr_174_83 (Nat.le_of_ble_eq_true rfl) rfl ?_
                          have lp85_42 : ∀ (nlp85_42 : Nat) (i38 i39 i40 : Int) (m41 : zM), zInv m41 → zFr W_174 m0 m41 → m41 70 822 = f35 → 0 ≤ i38 → i38 ≤ 10 → (-9223372036854775808) ≤ i39 → i39 ≤ 9223372036854775807 → 0 ≤ i40 → i40 ≤ 10 → (i38 ≤ i40) → (10 - i40).toNat < nlp85_42 → zW E (d) 174 85 [(2, 69), (0, a0), (0, a1), (0, a2), (0, i38), (1, i39), (9, 0), (0, i40)] [] m41 Q := by
                            intro nlp85_42
                            induction nlp85_42 with
                            | zero =>
                              intros
                              exact absurd (by assumption : _ < 0) (Nat.not_lt_zero _)
                            | succ nlp85_42 ihlp85_42 =>
                              intro i38 i39 i40 m41 hIm41 hFm41 km41_70_822 li38 ui38 li39 ui39 li40 ui40 hv0lp85_42 hmlp85_42
                              refine zw_4 zr_174_85 rfl ?_
                              refine zw_7 zr_174_87 rfl ?_
                              refine zw_C zr_174_88 (Or.inl rfl) zm_141 rfl rfl ⟨Nat.le_of_ble_eq_true rfl, Nat.le_of_ble_eq_true rfl, Nat.le_of_ble_eq_true rfl, rfl, by decide⟩ (by omega) (P := (fun v m' => zW E (d) 174 91 [(2, 69), (0, a0), (0, a1), (0, a2), (0, i38), (1, i39), (9, 0), (0, i40)] (if v.1 = 9 then [(0, i40)] else v :: [(0, i40)]) m' Q)) ?_ (fun _ _ h => h)
                              generalize hQ1 : (fun v m' => zW E (d) 174 91 [(2, 69), (0, a0), (0, a1), (0, a2), (0, i38), (1, i39), (9, 0), (0, i40)] (if v.1 = 9 then [(0, i40)] else v :: [(0, i40)]) m' Q) = Q1
                              show zW E (d - 1) 141 0 [(2, 69)] [] m41 Q1
                              refine zw_7 zr_141_0 rfl ?_
                              refine zw_46r (s := 70) zr_141_1 rfl rfl rfl rfl ?_
                              refine zw_push zr_141_4 ?_
                              refine zw_48k (c := 70) (len := 826) zr_141_7 rfl rfl (by omega) (by omega) (show (822 : Int).toNat = 822 by omega) km41_70_822 ?_
                              refine zw_R zr_141_8 (by decide) zm_141 (v := (0, f35)) rfl ?_
                              rw [← hQ1]
                              show zW E (d) 174 91 [(2, 69), (0, a0), (0, a1), (0, a2), (0, i38), (1, i39), (9, 0), (0, i40)] [(0, f35), (0, i40)] m41 Q
                              refine zw_41_3 zr_174_91 ?_ ?_
                              · intro h44
                                refine zw_4 zr_174_144 rfl ?_
                                refine zw_40_4 zr_174_146 ?_ ?_
                                · intro h45
                                  refine zw_7 zr_174_151 rfl ?_
                                  refine zw_6 zr_174_152 rfl ?_
                                  refine zw_4 zr_174_154 rfl ?_
                                  refine zw_36 zr_174_156 ?_
                                  refine zw_C zr_174_157 (Or.inl rfl) zm_173 rfl rfl ⟨Nat.le_of_ble_eq_true rfl, Nat.le_of_ble_eq_true rfl, Nat.le_of_ble_eq_true rfl, rfl, by decide⟩ (by omega) (th_173 (d := d - 1) (by omega) hIm41 (a0 := i39) (a1 := i38)      (by omega) (by omega) ) ?_
                                  rintro _ m46 ⟨rfl, hIm46, gm46⟩
                                  have hFm46 : zFr W_174 m0 m46 := hFm41.trans gm46 rfl
                                  have km46_70_822 : m46 70 822 = f35 := (gm46 70 822 rfl).trans km41_70_822
                                  show zW E (d) 174 160 [(2, 69), (0, a0), (0, a1), (0, a2), (0, i38), (1, i39), (9, 0), (0, i40)] [] m46 Q
                                  refine zw_push zr_174_160 ?_
                                  refine zw_R zr_174_161 (by decide) zm_174 (v := (0, 1)) rfl ?_
                                  rw [← hQ]; exact ⟨_, rfl, by omega, by omega, hIm46, hFm46⟩
                                · intro h47
                                  refine zw_push zr_174_149 ?_
                                  refine zw_R zr_174_150 (by decide) zm_174 (v := (0, 0)) rfl ?_
                                  rw [← hQ]; exact ⟨_, rfl, by omega, by omega, hIm41, hFm41⟩
                              · intro h48
                                refine zw_7 zr_174_94 rfl ?_
                                refine zw_4 zr_174_95 rfl ?_
                                refine zw_3 zr_174_97 rfl ?_
                                refine zw_C zr_174_98 (Or.inl rfl) zm_172 rfl rfl ⟨Nat.le_of_ble_eq_true rfl, Nat.le_of_ble_eq_true rfl, Nat.le_of_ble_eq_true rfl, rfl, by decide⟩ (by omega) (th_172 (d := d - 1) (by omega) hIm41 (a0 := i40) (a1 := a1)   (F70 := m41 70)  rfl (by omega) (by omega) ) ?_
                                rintro _ _ ⟨r49, rfl, hr49a, hr49b, rfl, po0_r49⟩
                                show zW E (d) 174 101 [(2, 69), (0, a0), (0, a1), (0, a2), (0, i38), (1, i39), (9, 0), (0, i40)] [(0, r49)] m41 Q
                                refine zw_40_1 zr_174_101 ?_ ?_
                                · intro h50
                                  refine zw_15 (c := 1) (L' := [(2, 69), (0, a0), (0, a1), (0, a2), (0, i38), (1, i39), (9, 0), (0, (i40 + 1))]) zr_174_138 rfl (by decide) (by omega) rfl ?_
                                  refine zw_42 zr_174_141 ?_
                                  exact zw_less (L := [(2, 69), (0, a0), (0, a1), (0, a2), (0, i38), (1, i39), (9, 0), (0, (i40 + 1))]) ⟨Or.inr rfl, Or.inr rfl, Or.inr rfl, Or.inr rfl, Or.inr rfl, Or.inr rfl, Or.inl rfl, Or.inr rfl, trivial⟩ (ihlp85_42 (i38) (i39) ((i40 + 1)) m41 hIm41 hFm41  km41_70_822 (by omega) (by omega) (by omega) (by omega) (by omega) (by omega) (by omega) (by omega))
                                · intro h51
                                  refine zw_7 zr_174_104 rfl ?_
                                  refine zw_4 zr_174_105 rfl ?_
                                  refine zw_3 zr_174_107 rfl ?_
                                  refine zw_C zr_174_108 (Or.inl rfl) zm_172 rfl rfl ⟨Nat.le_of_ble_eq_true rfl, Nat.le_of_ble_eq_true rfl, Nat.le_of_ble_eq_true rfl, rfl, by decide⟩ (by omega) (th_172 (d := d - 1) (by omega) hIm41 (a0 := i40) (a1 := a2)   (F70 := m41 70)  rfl (by omega) (by omega) ) ?_
                                  rintro _ _ ⟨r52, rfl, hr52a, hr52b, rfl, po0_r52⟩
                                  show zW E (d) 174 111 [(2, 69), (0, a0), (0, a1), (0, a2), (0, i38), (1, i39), (9, 0), (0, i40)] [(0, r52)] m41 Q
                                  refine zw_40_1 zr_174_111 ?_ ?_
                                  · intro h53
                                    refine zw_15 (c := 1) (L' := [(2, 69), (0, a0), (0, a1), (0, a2), (0, i38), (1, i39), (9, 0), (0, (i40 + 1))]) zr_174_138 rfl (by decide) (by omega) rfl ?_
                                    refine zw_42 zr_174_141 ?_
                                    exact zw_less (L := [(2, 69), (0, a0), (0, a1), (0, a2), (0, i38), (1, i39), (9, 0), (0, (i40 + 1))]) ⟨Or.inr rfl, Or.inr rfl, Or.inr rfl, Or.inr rfl, Or.inr rfl, Or.inr rfl, Or.inl rfl, Or.inr rfl, trivial⟩ (ihlp85_42 (i38) (i39) ((i40 + 1)) m41 hIm41 hFm41  km41_70_822 (by omega) (by omega) (by omega) (by omega) (by omega) (by omega) (by omega) (by omega))
                                  · intro h54
                                    refine zw_15 (c := 1) (L' := [(2, 69), (0, a0), (0, a1), (0, a2), (0, (i38 + 1)), (1, i39), (9, 0), (0, i40)]) zr_174_114 rfl (by decide) (by omega) rfl ?_
                                    refine zw_6 zr_174_117 rfl ?_
                                    refine zw_7 zr_174_119 rfl ?_
                                    refine zw_46r (s := 76) zr_174_120 rfl rfl rfl rfl ?_
                                    refine zw_4 zr_174_123 rfl ?_
                                    refine zw_48 (c := 76) (len := 10) zr_174_125 rfl rfl (by omega) (by omega) ?_
                                    intro x55 ex55
                                    have bx55 := hIm41.ra (c := 76) (len := 10) (k := (i40).toNat) rfl (by omega)
                                    rw [← ex55] at bx55
                                    clear ex55
                                    refine zw_7 zr_174_126 rfl ?_
                                    refine zw_46r (s := 79) zr_174_127 rfl rfl rfl rfl ?_
                                    refine zw_4 zr_174_130 rfl ?_
                                    refine zw_48 (c := 79) (len := 10) zr_174_132 rfl rfl (by omega) (by omega) ?_
                                    intro x56 ex56
                                    have bx56 := hIm41.ra (c := 79) (len := 10) (k := (i40).toNat) rfl (by omega)
                                    rw [← ex56] at bx56
                                    clear ex56
                                    refine zw_17h zr_174_133 ?_
                                    intro x57 hx57a hx57b
                                    refine zw_36 zr_174_134 ?_
                                    refine zw_27h zr_174_135 ?_
                                    intro x58 hx58a hx58b
                                    refine zw_14 (L' := [(2, 69), (0, a0), (0, a1), (0, a2), (0, (i38 + 1)), (1, x58), (9, 0), (0, i40)]) zr_174_136 (Nat.le_of_ble_eq_true rfl) rfl ?_
                                    refine zw_15 (c := 1) (L' := [(2, 69), (0, a0), (0, a1), (0, a2), (0, (i38 + 1)), (1, x58), (9, 0), (0, (i40 + 1))]) zr_174_138 rfl (by decide) (by omega) rfl ?_
                                    refine zw_42 zr_174_141 ?_
                                    exact zw_less (L := [(2, 69), (0, a0), (0, a1), (0, a2), (0, (i38 + 1)), (1, x58), (9, 0), (0, (i40 + 1))]) ⟨Or.inr rfl, Or.inr rfl, Or.inr rfl, Or.inr rfl, Or.inr rfl, Or.inr rfl, Or.inl rfl, Or.inr rfl, trivial⟩ (ihlp85_42 ((i38 + 1)) (x58) ((i40 + 1)) m41 hIm41 hFm41  km41_70_822 (by omega) (by omega) (by omega) (by omega) (by omega) (by omega) (by omega) (by omega))
                          exact lp85_42 _ (0) (0) (0) m37 hIm37 hFm37  km37_70_822 (by omega) (by omega) (by omega) (by omega) (by omega) (by omega) (by omega) (Nat.lt_succ_self _)
                        · intro h59
                          refine zw_7 zr_174_50 rfl ?_
                          refine zw_46r (s := 79) zr_174_51 rfl rfl rfl rfl ?_
                          refine zw_4 zr_174_54 rfl ?_
                          refine zw_7 zr_174_56 rfl ?_
                          refine zw_46r (s := 76) zr_174_57 rfl rfl rfl rfl ?_
                          refine zw_4 zr_174_60 rfl ?_
                          refine zw_48 (c := 76) (len := 10) zr_174_62 rfl rfl (by omega) (by omega) ?_
                          intro x60 ex60
                          have bx60 := hIm32.ra (c := 76) (len := 10) (k := (i31).toNat) rfl (by omega)
                          rw [← ex60] at bx60
                          clear ex60
                          refine zw_49 (c := 79) (len := 10) zr_174_63 rfl rfl (by omega) (by omega) ?_
                          intro m61 em61
                          have hIm61 : zInv m61 := by rw [em61]; exact hIm32.any (by omega) rfl (by decide) (by decide)
                          have hFm61 : zFr W_174 m0 m61 := by rw [em61]; exact hFm32.any rfl
                          have km61_70_822 : m61 70 822 = f35 := by rw [em61, zUp_ne (by omega)]; exact ef35
                          clear em61
                          refine zw_15 (c := 1) (L' := [(2, 69), (0, a0), (0, a1), (0, a2), (0, (i31 + 1)), (9, 0), (9, 0), (9, 0)]) zr_174_64 rfl (by decide) (by omega) rfl ?_
                          refine zw_42 zr_174_67 ?_
                          exact zw_less (L := [(2, 69), (0, a0), (0, a1), (0, a2), (0, (i31 + 1)), (9, 0), (9, 0), (9, 0)]) ⟨Or.inr rfl, Or.inr rfl, Or.inr rfl, Or.inr rfl, Or.inr rfl, Or.inl rfl, Or.inl rfl, Or.inl rfl, trivial⟩ (ihlp41_33 ((i31 + 1)) m61 hIm61 hFm61   (by omega) (by omega)  (by omega))
                    exact lp41_33 _ (0) m30 hIm30 hFm30   (by omega) (by omega)  (Nat.lt_succ_self _)
                  · intro h62; omega

abbrev W_45 : List (Nat × Nat) := [(43, 5), (44, 1000), (45, 1), (45, 5), (45, 6), (45, 7), (45, 8), (45, 9), (46, 1000), (47, 1000), (48, 1000), (49, 1000), (50, 1000), (51, 1000)]
set_option maxHeartbeats 8000000 in
theorem th_45 {E : zE} {d : Nat} {m0 : zM} {a0 : Int} {a1 : Int} {a2 : Int} (hd : 95 ≤ d) (hI0 : zInv m0) (ha0 : 0 ≤ a0 ∧ a0 ≤ 3) (ha1 : 0 ≤ a1 ∧ a1 ≤ 9) (ha2 : 0 ≤ a2 ∧ a2 ≤ 99) : zC E d 45 [(2, 43), (0, a0), (0, a1), (0, a2)] m0 (fun v m' => ∃ r : Int, v = (0, r) ∧ (-2147483648) ≤ r ∧ r ≤ 2147483647 ∧ zInv m' ∧ zFr W_45 m0 m') := by
  have hF0 : zFr W_45 m0 m0 := zFr.rfl
  generalize hQ : (fun (v : zV) (m' : zM) => ∃ r : Int, v = (0, r) ∧ (-2147483648) ≤ r ∧ r ≤ 2147483647 ∧ zInv m' ∧ zFr W_45 m0 m') = Q
  show zW E d 45 0 [(2, 43), (0, a0), (0, a1), (0, a2), (9, 0)] [] m0 Q
  refine zw_7 zr_45_0 rfl ?_
  refine zw_3 zr_45_1 rfl ?_
  refine zw_C zr_45_2 (Or.inl rfl) zm_16 rfl rfl ⟨Nat.le_of_ble_eq_true rfl, Nat.le_of_ble_eq_true rfl, Nat.le_of_ble_eq_true rfl, rfl, by decide⟩ (by omega) (th_16 (d := d - 1) (by omega) hI0 (a0 := a0)      (by omega) ) ?_
  rintro _ m1 ⟨rfl, hIm1, gm1⟩
  have hFm1 : zFr W_45 m0 m1 := hF0.trans gm1 rfl
  show zW E (d) 45 5 [(2, 43), (0, a0), (0, a1), (0, a2), (9, 0)] [] m1 Q
  refine zw_push zr_45_5 ?_
  refine zw_10 (L' := [(2, 43), (0, a0), (0, a1), (0, a2), (0, 0)]) zr_45_6 (Nat.le_of_ble_eq_true rfl) rfl ?_
  have lp8_4 : ∀ (nlp8_4 : Nat) (i2 : Int) (m3 : zM), zInv m3 → zFr W_45 m0 m3 → 0 ≤ i2 → i2 ≤ 60 → (60 - i2).toNat < nlp8_4 → zW E (d) 45 8 [(2, 43), (0, a0), (0, a1), (0, a2), (0, i2)] [] m3 Q := by
    intro nlp8_4
    induction nlp8_4 with
    | zero =>
      intros
      exact absurd (by assumption : _ < 0) (Nat.not_lt_zero _)
    | succ nlp8_4 ihlp8_4 =>
      intro i2 m3 hIm3 hFm3 li2 ui2 hmlp8_4
      refine zw_4 zr_45_8 rfl ?_
      refine zw_7 zr_45_10 rfl ?_
      refine zw_46r (s := 1) zr_45_11 rfl rfl rfl rfl ?_
      obtain ⟨f6, ef6⟩ : ∃ v, m3 1 1 = v := ⟨_, rfl⟩
      have bf6 := ib_1_1 hIm3
      rw [ef6] at bf6
      refine zw_46i zr_45_14 ef6 rfl rfl rfl ?_
      refine zw_41_3 zr_45_17 ?_ ?_
      · intro h7
        refine zw_7 zr_45_59 rfl ?_
        refine zw_46r (s := 44) zr_45_60 rfl rfl rfl rfl ?_
        refine zw_3 zr_45_63 rfl ?_
        refine zw_48 (c := 44) (len := 10) zr_45_64 rfl rfl (by omega) (by omega) ?_
        intro x8 ex8
        have bx8 := hIm3.ra (c := 44) (len := 10) (k := (a1).toNat) rfl (by omega)
        rw [← ex8] at bx8
        clear ex8
        refine zw_R zr_45_65 (by decide) zm_45 (v := (0, x8)) rfl ?_
        rw [← hQ]; exact ⟨_, rfl, by omega, by omega, hIm3, hFm3⟩
      · intro h9
        refine zw_7 zr_45_20 rfl ?_
        refine zw_46r (s := 1) zr_45_21 rfl rfl rfl rfl ?_
        refine zw_46r (s := 5) zr_45_24 rfl rfl rfl rfl ?_
        refine zw_4 zr_45_27 rfl ?_
        refine zw_48 (c := 5) (len := 60) zr_45_29 rfl rfl (by omega) (by omega) ?_
        intro x10 ex10
        have bx10 := ib_5 hIm3 (k := (i2).toNat) (by omega)
        rw [← ex10] at bx10
        clear ex10
        refine zw_3 zr_45_30 rfl ?_
        refine zw_41_4 zr_45_31 ?_ ?_
        · intro h11
          refine zw_7 zr_45_47 rfl ?_
          refine zw_4 zr_45_48 rfl ?_
          refine zw_C zr_45_50 (Or.inl rfl) zm_26 rfl rfl ⟨Nat.le_of_ble_eq_true rfl, Nat.le_of_ble_eq_true rfl, Nat.le_of_ble_eq_true rfl, rfl, by decide⟩ (by omega) (th_26 (d := d - 1) (by omega) hIm3 (a0 := i2)      (by omega) ) ?_
          rintro _ m12 ⟨rfl, hIm12, gm12⟩
          have hFm12 : zFr W_45 m0 m12 := hFm3.trans gm12 rfl
          have km12_1_1 : m12 1 1 = f6 := (gm12 1 1 rfl).trans ef6
          show zW E (d) 45 53 [(2, 43), (0, a0), (0, a1), (0, a2), (0, i2)] [] m12 Q
          refine zw_15 (c := 1) (L' := [(2, 43), (0, a0), (0, a1), (0, a2), (0, (i2 + 1))]) zr_45_53 rfl (by decide) (by omega) rfl ?_
          refine zw_42 zr_45_56 ?_
          exact zw_less (L := [(2, 43), (0, a0), (0, a1), (0, a2), (0, (i2 + 1))]) ⟨Or.inr rfl, Or.inr rfl, Or.inr rfl, Or.inr rfl, Or.inr rfl, trivial⟩ (ihlp8_4 ((i2 + 1)) m12 hIm12 hFm12   (by omega) (by omega)  (by omega))
        · intro h13
          refine zw_7 zr_45_34 rfl ?_
          refine zw_46r (s := 1) zr_45_35 rfl rfl rfl rfl ?_
          refine zw_4 zr_45_38 rfl ?_
          refine zw_3 zr_45_40 rfl ?_
          refine zw_C zr_45_41 (Or.inl rfl) zm_44 rfl rfl ⟨Nat.le_of_ble_eq_true rfl, Nat.le_of_ble_eq_true rfl, Nat.le_of_ble_eq_true rfl, rfl, by decide⟩ (by omega) (P := (fun v m' => zW E (d) 45 44 [(2, 43), (0, a0), (0, a1), (0, a2), (0, i2)] (if v.1 = 9 then [] else v :: []) m' Q)) ?_ (fun _ _ h => h)
          generalize hQ1 : (fun v m' => zW E (d) 45 44 [(2, 43), (0, a0), (0, a1), (0, a2), (0, i2)] (if v.1 = 9 then [] else v :: []) m' Q) = Q1
          show zW E (d - 1) 44 0 [(2, 1), (0, i2), (0, a1)] [] m3 Q1
          refine zw_7 zr_44_0 rfl ?_
          refine zw_46r (s := 6) zr_44_1 rfl rfl rfl rfl ?_
          refine zw_3 zr_44_4 rfl ?_
          refine zw_48 (c := 6) (len := 60) zr_44_5 rfl rfl (by omega) (by omega) ?_
          intro x14 ex14
          have bx14 := ib_6 hIm3 (k := (i2).toNat) (by omega)
          rw [← ex14] at bx14
          clear ex14
          refine zw_3 zr_44_6 rfl ?_
          refine zw_41_1 zr_44_7 ?_ ?_
          · intro h15
            refine zw_push zr_44_20 ?_
            refine zw_42 zr_44_21 ?_
            refine zw_R zr_44_25 (by decide) zm_44 (v := (0, 1)) (zRetB (by omega)) ?_
            rw [← hQ1]
            show zW E (d) 45 44 [(2, 43), (0, a0), (0, a1), (0, a2), (0, i2)] [(0, 1)] m3 Q
            refine zw_40_4 zr_45_44 ?_ ?_
            · intro h16
              refine zw_15 (c := 1) (L' := [(2, 43), (0, a0), (0, a1), (0, a2), (0, (i2 + 1))]) zr_45_53 rfl (by decide) (by omega) rfl ?_
              refine zw_42 zr_45_56 ?_
              exact zw_less (L := [(2, 43), (0, a0), (0, a1), (0, a2), (0, (i2 + 1))]) ⟨Or.inr rfl, Or.inr rfl, Or.inr rfl, Or.inr rfl, Or.inr rfl, trivial⟩ (ihlp8_4 ((i2 + 1)) m3 hIm3 hFm3   (by omega) (by omega)  (by omega))
            · intro h17; omega
          · intro h18
            refine zw_7 zr_44_10 rfl ?_
            refine zw_46r (s := 7) zr_44_11 rfl rfl rfl rfl ?_
            refine zw_3 zr_44_14 rfl ?_
            refine zw_48 (c := 7) (len := 60) zr_44_15 rfl rfl (by omega) (by omega) ?_
            intro x19 ex19
            have bx19 := ib_7 hIm3 (k := (i2).toNat) (by omega)
            rw [← ex19] at bx19
            clear ex19
            refine zw_3 zr_44_16 rfl ?_
            refine zw_41_4 zr_44_17 ?_ ?_
            · intro h20
              refine zw_push zr_44_24 ?_
              refine zw_R zr_44_25 (by decide) zm_44 (v := (0, 0)) (zRetB (by omega)) ?_
              rw [← hQ1]
              show zW E (d) 45 44 [(2, 43), (0, a0), (0, a1), (0, a2), (0, i2)] [(0, 0)] m3 Q
              refine zw_40_4 zr_45_44 ?_ ?_
              · intro h21; omega
              · intro h22
                refine zw_7 zr_45_47 rfl ?_
                refine zw_4 zr_45_48 rfl ?_
                refine zw_C zr_45_50 (Or.inl rfl) zm_26 rfl rfl ⟨Nat.le_of_ble_eq_true rfl, Nat.le_of_ble_eq_true rfl, Nat.le_of_ble_eq_true rfl, rfl, by decide⟩ (by omega) (th_26 (d := d - 1) (by omega) hIm3 (a0 := i2)      (by omega) ) ?_
                rintro _ m23 ⟨rfl, hIm23, gm23⟩
                have hFm23 : zFr W_45 m0 m23 := hFm3.trans gm23 rfl
                have km23_1_1 : m23 1 1 = f6 := (gm23 1 1 rfl).trans ef6
                show zW E (d) 45 53 [(2, 43), (0, a0), (0, a1), (0, a2), (0, i2)] [] m23 Q
                refine zw_15 (c := 1) (L' := [(2, 43), (0, a0), (0, a1), (0, a2), (0, (i2 + 1))]) zr_45_53 rfl (by decide) (by omega) rfl ?_
                refine zw_42 zr_45_56 ?_
                exact zw_less (L := [(2, 43), (0, a0), (0, a1), (0, a2), (0, (i2 + 1))]) ⟨Or.inr rfl, Or.inr rfl, Or.inr rfl, Or.inr rfl, Or.inr rfl, trivial⟩ (ihlp8_4 ((i2 + 1)) m23 hIm23 hFm23   (by omega) (by omega)  (by omega))
            · intro h24
              refine zw_push zr_44_20 ?_
              refine zw_42 zr_44_21 ?_
              refine zw_R zr_44_25 (by decide) zm_44 (v := (0, 1)) (zRetB (by omega)) ?_
              rw [← hQ1]
              show zW E (d) 45 44 [(2, 43), (0, a0), (0, a1), (0, a2), (0, i2)] [(0, 1)] m3 Q
              refine zw_40_4 zr_45_44 ?_ ?_
              · intro h25
                refine zw_15 (c := 1) (L' := [(2, 43), (0, a0), (0, a1), (0, a2), (0, (i2 + 1))]) zr_45_53 rfl (by decide) (by omega) rfl ?_
                refine zw_42 zr_45_56 ?_
                exact zw_less (L := [(2, 43), (0, a0), (0, a1), (0, a2), (0, (i2 + 1))]) ⟨Or.inr rfl, Or.inr rfl, Or.inr rfl, Or.inr rfl, Or.inr rfl, trivial⟩ (ihlp8_4 ((i2 + 1)) m3 hIm3 hFm3   (by omega) (by omega)  (by omega))
              · intro h26; omega
  exact lp8_4 _ (0) m1 hIm1 hFm1   (by omega) (by omega)  (Nat.lt_succ_self _)

abbrev W_112 : List (Nat × Nat) := [(43, 5), (44, 1000), (45, 1), (45, 5), (45, 6), (45, 7), (45, 8), (45, 9), (46, 1000), (47, 1000), (48, 1000), (49, 1000), (50, 1000), (51, 1000)]
set_option maxHeartbeats 8000000 in
theorem th_112 {E : zE} {d : Nat} {m0 : zM} {a0 : Int} {a1 : Int} {a2 : Int} (hd : 96 ≤ d) (hI0 : zInv m0) (ha0 : (-2147483648) ≤ a0 ∧ a0 ≤ 2147483647) (ha1 : (-2147483648) ≤ a1 ∧ a1 ≤ 2147483647) (ha2 : (-2147483648) ≤ a2 ∧ a2 ≤ 2147483647) : zC E d 112 [(2, 0), (0, a0), (0, a1), (0, a2)] m0 (fun v m' => ∃ r : Int, v = (0, r) ∧ (-2147483648) ≤ r ∧ r ≤ 2147483647 ∧ zInv m' ∧ zFr W_112 m0 m') := by
  have hF0 : zFr W_112 m0 m0 := zFr.rfl
  generalize hQ : (fun (v : zV) (m' : zM) => ∃ r : Int, v = (0, r) ∧ (-2147483648) ≤ r ∧ r ≤ 2147483647 ∧ zInv m' ∧ zFr W_112 m0 m') = Q
  show zW E d 112 0 [(2, 0), (0, a0), (0, a1), (0, a2), (9, 0)] [] m0 Q
  refine zw_3 zr_112_0 rfl ?_
  refine zw_C zr_112_1 (Or.inr rfl) zm_104 rfl rfl ⟨Nat.le_of_ble_eq_true rfl, Nat.le_of_ble_eq_true rfl, Nat.le_of_ble_eq_true rfl, rfl, by decide⟩ (by omega) (P := (fun v m' => zW E (d) 112 4 [(2, 0), (0, a0), (0, a1), (0, a2), (9, 0)] (if v.1 = 9 then [] else v :: []) m' Q)) ?_ (fun _ _ h => h)
  generalize hQ1 : (fun v m' => zW E (d) 112 4 [(2, 0), (0, a0), (0, a1), (0, a2), (9, 0)] (if v.1 = 9 then [] else v :: []) m' Q) = Q1
  show zW E (d - 1) 104 0 [(0, a0)] [] m0 Q1
  refine zw_3 zr_104_0 rfl ?_
  refine zw_push zr_104_1 ?_
  refine zw_push zr_104_2 ?_
  refine zw_C zr_104_3 (Or.inr rfl) zm_100 rfl rfl ⟨Nat.le_of_ble_eq_true rfl, Nat.le_of_ble_eq_true rfl, Nat.le_of_ble_eq_true rfl, rfl, by decide⟩ (by omega) (P := (fun v m' => zW E (d - 1) 104 6 [(0, a0)] (if v.1 = 9 then [] else v :: []) m' Q1)) ?_ (fun _ _ h => h)
  generalize hQ2 : (fun v m' => zW E (d - 1) 104 6 [(0, a0)] (if v.1 = 9 then [] else v :: []) m' Q1) = Q2
  show zW E (d - 1 - 1) 100 0 [(0, a0), (0, 0), (0, 3)] [] m0 Q2
  refine zw_3 zr_100_0 rfl ?_
  refine zw_3 zr_100_1 rfl ?_
  refine zw_41_0 zr_100_2 ?_ ?_
  · intro h1
    refine zw_push zr_100_14 ?_
    refine zw_R zr_100_15 (by decide) zm_100 (v := (0, 0)) (zRetB (by omega)) ?_
    rw [← hQ2]
    show zW E (d - 1) 104 6 [(0, a0)] [(0, 0)] m0 Q1
    refine zw_R zr_104_6 (by decide) zm_104 (v := (0, 0)) (zRetB (by omega)) ?_
    rw [← hQ1]
    show zW E (d) 112 4 [(2, 0), (0, a0), (0, a1), (0, a2), (9, 0)] [(0, 0)] m0 Q
    refine zw_40_1 zr_112_4 ?_ ?_
    · intro h2
      refine zw_push zr_112_25 ?_
      refine zw_R zr_112_27 (by decide) zm_112 (v := (0, (-100000))) rfl ?_
      rw [← hQ]; exact ⟨_, rfl, by omega, by omega, hI0, hF0⟩
    · intro h3; omega
  · intro h4
    refine zw_3 zr_100_5 rfl ?_
    refine zw_3 zr_100_6 rfl ?_
    refine zw_41_2 zr_100_7 ?_ ?_
    · intro h5
      refine zw_push zr_100_14 ?_
      refine zw_R zr_100_15 (by decide) zm_100 (v := (0, 0)) (zRetB (by omega)) ?_
      rw [← hQ2]
      show zW E (d - 1) 104 6 [(0, a0)] [(0, 0)] m0 Q1
      refine zw_R zr_104_6 (by decide) zm_104 (v := (0, 0)) (zRetB (by omega)) ?_
      rw [← hQ1]
      show zW E (d) 112 4 [(2, 0), (0, a0), (0, a1), (0, a2), (9, 0)] [(0, 0)] m0 Q
      refine zw_40_1 zr_112_4 ?_ ?_
      · intro h6
        refine zw_push zr_112_25 ?_
        refine zw_R zr_112_27 (by decide) zm_112 (v := (0, (-100000))) rfl ?_
        rw [← hQ]; exact ⟨_, rfl, by omega, by omega, hI0, hF0⟩
      · intro h7; omega
    · intro h8
      refine zw_push zr_100_10 ?_
      refine zw_42 zr_100_11 ?_
      refine zw_R zr_100_15 (by decide) zm_100 (v := (0, 1)) (zRetB (by omega)) ?_
      rw [← hQ2]
      show zW E (d - 1) 104 6 [(0, a0)] [(0, 1)] m0 Q1
      refine zw_R zr_104_6 (by decide) zm_104 (v := (0, 1)) (zRetB (by omega)) ?_
      rw [← hQ1]
      show zW E (d) 112 4 [(2, 0), (0, a0), (0, a1), (0, a2), (9, 0)] [(0, 1)] m0 Q
      refine zw_40_1 zr_112_4 ?_ ?_
      · intro h9; omega
      · intro h10
        refine zw_7 zr_112_7 rfl ?_
        refine zw_46r (s := 1) zr_112_8 rfl rfl rfl rfl ?_
        refine zw_3 zr_112_11 rfl ?_
        refine zw_C zr_112_12 (Or.inl rfl) zm_49 rfl rfl ⟨Nat.le_of_ble_eq_true rfl, Nat.le_of_ble_eq_true rfl, Nat.le_of_ble_eq_true rfl, rfl, by decide⟩ (by omega) (P := (fun v m' => zW E (d) 112 15 [(2, 0), (0, a0), (0, a1), (0, a2), (9, 0)] (if v.1 = 9 then [] else v :: []) m' Q)) ?_ (fun _ _ h => h)
        generalize hQ1 : (fun v m' => zW E (d) 112 15 [(2, 0), (0, a0), (0, a1), (0, a2), (9, 0)] (if v.1 = 9 then [] else v :: []) m' Q) = Q1
        show zW E (d - 1) 49 0 [(2, 1), (0, a1)] [] m0 Q1
        refine zw_3 zr_49_0 rfl ?_
        refine zw_40_0 zr_49_1 ?_ ?_
        · intro h11
          refine zw_push zr_49_16 ?_
          refine zw_R zr_49_17 (by decide) zm_49 (v := (0, 0)) (zRetB (by omega)) ?_
          rw [← hQ1]
          show zW E (d) 112 15 [(2, 0), (0, a0), (0, a1), (0, a2), (9, 0)] [(0, 0)] m0 Q
          refine zw_40_1 zr_112_15 ?_ ?_
          · intro h12
            refine zw_push zr_112_25 ?_
            refine zw_R zr_112_27 (by decide) zm_112 (v := (0, (-100000))) rfl ?_
            rw [← hQ]; exact ⟨_, rfl, by omega, by omega, hI0, hF0⟩
          · intro h13; omega
        · intro h14
          refine zw_3 zr_49_4 rfl ?_
          refine zw_7 zr_49_5 rfl ?_
          obtain ⟨f15, ef15⟩ : ∃ v, m0 1 0 = v := ⟨_, rfl⟩
          have bf15 := ib_1_0 hI0
          rw [ef15] at bf15
          refine zw_46i zr_49_6 ef15 rfl rfl rfl ?_
          refine zw_41_3 zr_49_9 ?_ ?_
          · intro h16
            refine zw_push zr_49_16 ?_
            refine zw_R zr_49_17 (by decide) zm_49 (v := (0, 0)) (zRetB (by omega)) ?_
            rw [← hQ1]
            show zW E (d) 112 15 [(2, 0), (0, a0), (0, a1), (0, a2), (9, 0)] [(0, 0)] m0 Q
            refine zw_40_1 zr_112_15 ?_ ?_
            · intro h17
              refine zw_push zr_112_25 ?_
              refine zw_R zr_112_27 (by decide) zm_112 (v := (0, (-100000))) rfl ?_
              rw [← hQ]; exact ⟨_, rfl, by omega, by omega, hI0, hF0⟩
            · intro h18; omega
          · intro h19
            refine zw_push zr_49_12 ?_
            refine zw_42 zr_49_13 ?_
            refine zw_R zr_49_17 (by decide) zm_49 (v := (0, 1)) (zRetB (by omega)) ?_
            rw [← hQ1]
            show zW E (d) 112 15 [(2, 0), (0, a0), (0, a1), (0, a2), (9, 0)] [(0, 1)] m0 Q
            refine zw_40_1 zr_112_15 ?_ ?_
            · intro h20; omega
            · intro h21
              refine zw_3 zr_112_18 rfl ?_
              refine zw_C zr_112_19 (Or.inr rfl) zm_101 rfl rfl ⟨Nat.le_of_ble_eq_true rfl, Nat.le_of_ble_eq_true rfl, Nat.le_of_ble_eq_true rfl, rfl, by decide⟩ (by omega) (P := (fun v m' => zW E (d) 112 22 [(2, 0), (0, a0), (0, a1), (0, a2), (9, 0)] (if v.1 = 9 then [] else v :: []) m' Q)) ?_ (fun _ _ h => h)
              generalize hQ1 : (fun v m' => zW E (d) 112 22 [(2, 0), (0, a0), (0, a1), (0, a2), (9, 0)] (if v.1 = 9 then [] else v :: []) m' Q) = Q1
              show zW E (d - 1) 101 0 [(0, a2)] [] m0 Q1
              refine zw_3 zr_101_0 rfl ?_
              refine zw_push zr_101_1 ?_
              refine zw_push zr_101_2 ?_
              refine zw_C zr_101_4 (Or.inr rfl) zm_100 rfl rfl ⟨Nat.le_of_ble_eq_true rfl, Nat.le_of_ble_eq_true rfl, Nat.le_of_ble_eq_true rfl, rfl, by decide⟩ (by omega) (P := (fun v m' => zW E (d - 1) 101 7 [(0, a2)] (if v.1 = 9 then [] else v :: []) m' Q1)) ?_ (fun _ _ h => h)
              generalize hQ2 : (fun v m' => zW E (d - 1) 101 7 [(0, a2)] (if v.1 = 9 then [] else v :: []) m' Q1) = Q2
              show zW E (d - 1 - 1) 100 0 [(0, a2), (0, 0), (0, 99)] [] m0 Q2
              refine zw_3 zr_100_0 rfl ?_
              refine zw_3 zr_100_1 rfl ?_
              refine zw_41_0 zr_100_2 ?_ ?_
              · intro h22
                refine zw_push zr_100_14 ?_
                refine zw_R zr_100_15 (by decide) zm_100 (v := (0, 0)) (zRetB (by omega)) ?_
                rw [← hQ2]
                show zW E (d - 1) 101 7 [(0, a2)] [(0, 0)] m0 Q1
                refine zw_R zr_101_7 (by decide) zm_101 (v := (0, 0)) (zRetB (by omega)) ?_
                rw [← hQ1]
                show zW E (d) 112 22 [(2, 0), (0, a0), (0, a1), (0, a2), (9, 0)] [(0, 0)] m0 Q
                refine zw_40_4 zr_112_22 ?_ ?_
                · intro h23; omega
                · intro h24
                  refine zw_push zr_112_25 ?_
                  refine zw_R zr_112_27 (by decide) zm_112 (v := (0, (-100000))) rfl ?_
                  rw [← hQ]; exact ⟨_, rfl, by omega, by omega, hI0, hF0⟩
              · intro h25
                refine zw_3 zr_100_5 rfl ?_
                refine zw_3 zr_100_6 rfl ?_
                refine zw_41_2 zr_100_7 ?_ ?_
                · intro h26
                  refine zw_push zr_100_14 ?_
                  refine zw_R zr_100_15 (by decide) zm_100 (v := (0, 0)) (zRetB (by omega)) ?_
                  rw [← hQ2]
                  show zW E (d - 1) 101 7 [(0, a2)] [(0, 0)] m0 Q1
                  refine zw_R zr_101_7 (by decide) zm_101 (v := (0, 0)) (zRetB (by omega)) ?_
                  rw [← hQ1]
                  show zW E (d) 112 22 [(2, 0), (0, a0), (0, a1), (0, a2), (9, 0)] [(0, 0)] m0 Q
                  refine zw_40_4 zr_112_22 ?_ ?_
                  · intro h27; omega
                  · intro h28
                    refine zw_push zr_112_25 ?_
                    refine zw_R zr_112_27 (by decide) zm_112 (v := (0, (-100000))) rfl ?_
                    rw [← hQ]; exact ⟨_, rfl, by omega, by omega, hI0, hF0⟩
                · intro h29
                  refine zw_push zr_100_10 ?_
                  refine zw_42 zr_100_11 ?_
                  refine zw_R zr_100_15 (by decide) zm_100 (v := (0, 1)) (zRetB (by omega)) ?_
                  rw [← hQ2]
                  show zW E (d - 1) 101 7 [(0, a2)] [(0, 1)] m0 Q1
                  refine zw_R zr_101_7 (by decide) zm_101 (v := (0, 1)) (zRetB (by omega)) ?_
                  rw [← hQ1]
                  show zW E (d) 112 22 [(2, 0), (0, a0), (0, a1), (0, a2), (9, 0)] [(0, 1)] m0 Q
                  refine zw_40_4 zr_112_22 ?_ ?_
                  · intro h30
                    refine zw_7 zr_112_28 rfl ?_
                    refine zw_46r (s := 43) zr_112_29 rfl rfl rfl rfl ?_
                    refine zw_3 zr_112_32 rfl ?_
                    refine zw_3 zr_112_33 rfl ?_
                    refine zw_3 zr_112_34 rfl ?_
                    refine zw_C zr_112_35 (Or.inl rfl) zm_45 rfl rfl ⟨Nat.le_of_ble_eq_true rfl, Nat.le_of_ble_eq_true rfl, Nat.le_of_ble_eq_true rfl, rfl, by decide⟩ (by omega) (th_45 (d := d - 1) (by omega) hI0 (a0 := a0) (a1 := a1) (a2 := a2)      (by omega) (by omega) (by omega) ) ?_
                    rintro _ m31 ⟨r32, rfl, hr32a, hr32b, hIm31, gm31⟩
                    have hFm31 : zFr W_112 m0 m31 := hF0.trans gm31 rfl
                    have km31_1_0 : m31 1 0 = f15 := (gm31 1 0 rfl).trans ef15
                    show zW E (d) 112 38 [(2, 0), (0, a0), (0, a1), (0, a2), (9, 0)] [(0, r32)] m31 Q
                    refine zw_10 (L' := [(2, 0), (0, a0), (0, a1), (0, a2), (0, r32)]) zr_112_38 (Nat.le_of_ble_eq_true rfl) rfl ?_
                    refine zw_7 zr_112_40 rfl ?_
                    refine zw_46r (s := 43) zr_112_41 rfl rfl rfl rfl ?_
                    refine zw_3 zr_112_44 rfl ?_
                    refine zw_C zr_112_45 (Or.inl rfl) zm_16 rfl rfl ⟨Nat.le_of_ble_eq_true rfl, Nat.le_of_ble_eq_true rfl, Nat.le_of_ble_eq_true rfl, rfl, by decide⟩ (by omega) (th_16 (d := d - 1) (by omega) hIm31 (a0 := a0)      (by omega) ) ?_
                    rintro _ m33 ⟨rfl, hIm33, gm33⟩
                    have hFm33 : zFr W_112 m0 m33 := hFm31.trans gm33 rfl
                    have km33_1_0 : m33 1 0 = f15 := (gm33 1 0 rfl).trans km31_1_0
                    show zW E (d) 112 48 [(2, 0), (0, a0), (0, a1), (0, a2), (0, r32)] [] m33 Q
                    refine zw_7 zr_112_48 rfl ?_
                    refine zw_46r (s := 43) zr_112_49 rfl rfl rfl rfl ?_
                    refine zw_7 zr_112_52 rfl ?_
                    refine zw_46r (s := 1) zr_112_53 rfl rfl rfl rfl ?_
                    obtain ⟨f34, ef34⟩ : ∃ v, m33 1 1 = v := ⟨_, rfl⟩
                    have bf34 := ib_1_1 hIm33
                    rw [ef34] at bf34
                    refine zw_46i zr_112_56 ef34 rfl rfl rfl ?_
                    refine zw_C zr_112_59 (Or.inl rfl) zm_41 rfl rfl ⟨Nat.le_of_ble_eq_true rfl, Nat.le_of_ble_eq_true rfl, Nat.le_of_ble_eq_true rfl, rfl, by decide⟩ (by omega) (th_41 (d := d - 1) (by omega) hIm33 (a0 := f34)      (by omega) ) ?_
                    rintro _ m35 ⟨rfl, hIm35, gm35⟩
                    have hFm35 : zFr W_112 m0 m35 := hFm33.trans gm35 rfl
                    have km35_1_0 : m35 1 0 = f15 := (gm35 1 0 rfl).trans km33_1_0
                    have km35_1_1 : m35 1 1 = f34 := (gm35 1 1 rfl).trans ef34
                    show zW E (d) 112 62 [(2, 0), (0, a0), (0, a1), (0, a2), (0, r32)] [] m35 Q
                    refine zw_4 zr_112_62 rfl ?_
                    refine zw_7 zr_112_64 rfl ?_
                    refine zw_46r (s := 43) zr_112_65 rfl rfl rfl rfl ?_
                    refine zw_46r (s := 44) zr_112_68 rfl rfl rfl rfl ?_
                    refine zw_3 zr_112_71 rfl ?_
                    refine zw_48 (c := 44) (len := 10) zr_112_72 rfl rfl (by omega) (by omega) ?_
                    intro x36 ex36
                    have bx36 := hIm35.ra (c := 44) (len := 10) (k := (a1).toNat) rfl (by omega)
                    rw [← ex36] at bx36
                    clear ex36
                    refine zw_17h zr_112_73 ?_
                    intro x37 hx37a hx37b
                    refine zw_R zr_112_74 (by decide) zm_112 (v := (0, x37)) rfl ?_
                    rw [← hQ]; exact ⟨_, rfl, by omega, by omega, hIm35, hFm35⟩
                  · intro h38; omega

abbrev W_175 : List (Nat × Nat) := [(69, 5), (69, 6), (69, 7), (69, 9), (69, 11), (69, 13), (69, 17), (69, 18), (73, 1000), (74, 1000), (75, 1000), (76, 1000), (77, 1000), (78, 1000)]
set_option maxHeartbeats 8000000 in
theorem th_175 {E : zE} {d : Nat} {m0 : zM} {a0 : Int} {a1 : Int} {a2 : Int} (hd : 7 ≤ d) (hI0 : zInv m0) (ha0 : (-2147483648) ≤ a0 ∧ a0 ≤ 2147483647) (ha1 : (-2147483648) ≤ a1 ∧ a1 ≤ 2147483647) (ha2 : (-2147483648) ≤ a2 ∧ a2 ≤ 2147483647) : zC E d 175 [(2, 69), (0, a0), (0, a1), (0, a2)] m0 (fun v m' => ∃ r : Int, v = (0, r) ∧ (-2147483648) ≤ r ∧ r ≤ 2147483647 ∧ zInv m' ∧ zFr W_175 m0 m') := by
  have hF0 : zFr W_175 m0 m0 := zFr.rfl
  generalize hQ : (fun (v : zV) (m' : zM) => ∃ r : Int, v = (0, r) ∧ (-2147483648) ≤ r ∧ r ≤ 2147483647 ∧ zInv m' ∧ zFr W_175 m0 m') = Q
  show zW E d 175 0 [(2, 69), (0, a0), (0, a1), (0, a2), (9, 0), (9, 0)] [] m0 Q
  refine zw_3 zr_175_0 rfl ?_
  refine zw_C zr_175_1 (Or.inr rfl) zm_148 rfl rfl ⟨Nat.le_of_ble_eq_true rfl, Nat.le_of_ble_eq_true rfl, Nat.le_of_ble_eq_true rfl, rfl, by decide⟩ (by omega) (P := (fun v m' => zW E (d) 175 4 [(2, 69), (0, a0), (0, a1), (0, a2), (9, 0), (9, 0)] (if v.1 = 9 then [] else v :: []) m' Q)) ?_ (fun _ _ h => h)
  generalize hQ1 : (fun v m' => zW E (d) 175 4 [(2, 69), (0, a0), (0, a1), (0, a2), (9, 0), (9, 0)] (if v.1 = 9 then [] else v :: []) m' Q) = Q1
  show zW E (d - 1) 148 0 [(0, a0)] [] m0 Q1
  refine zw_3 zr_148_0 rfl ?_
  refine zw_36 zr_148_1 ?_
  refine zw_push zr_148_2 ?_
  refine zw_push zr_148_3 ?_
  refine zw_C zr_148_6 (Or.inr rfl) zm_140 rfl rfl ⟨Nat.le_of_ble_eq_true rfl, Nat.le_of_ble_eq_true rfl, Nat.le_of_ble_eq_true rfl, rfl, by decide⟩ (by omega) (P := (fun v m' => zW E (d - 1) 148 9 [(0, a0)] (if v.1 = 9 then [] else v :: []) m' Q1)) ?_ (fun _ _ h => h)
  generalize hQ2 : (fun v m' => zW E (d - 1) 148 9 [(0, a0)] (if v.1 = 9 then [] else v :: []) m' Q1) = Q2
  show zW E (d - 1 - 1) 140 0 [(1, a0), (9, 0), (1, 0), (9, 0), (1, 3), (9, 0)] [] m0 Q2
  refine zw_5 zr_140_0 rfl ?_
  refine zw_5 zr_140_1 rfl ?_
  refine zw_39_0 zr_140_2 zr_140_3 ?_ ?_
  · intro h1
    refine zw_push zr_140_17 ?_
    refine zw_R zr_140_18 (by decide) zm_140 (v := (0, 0)) (zRetB (by omega)) ?_
    rw [← hQ2]
    show zW E (d - 1) 148 9 [(0, a0)] [(0, 0)] m0 Q1
    refine zw_R zr_148_9 (by decide) zm_148 (v := (0, 0)) (zRetB (by omega)) ?_
    rw [← hQ1]
    show zW E (d) 175 4 [(2, 69), (0, a0), (0, a1), (0, a2), (9, 0), (9, 0)] [(0, 0)] m0 Q
    refine zw_40_1 zr_175_4 ?_ ?_
    · intro h2
      refine zw_push zr_175_22 ?_
      refine zw_R zr_175_24 (by decide) zm_175 (v := (0, (-100000))) rfl ?_
      rw [← hQ]; exact ⟨_, rfl, by omega, by omega, hI0, hF0⟩
    · intro h3; omega
  · intro h4
    refine zw_5 zr_140_6 rfl ?_
    refine zw_6 zr_140_7 rfl ?_
    refine zw_39_2 zr_140_9 zr_140_10 ?_ ?_
    · intro h5
      refine zw_push zr_140_17 ?_
      refine zw_R zr_140_18 (by decide) zm_140 (v := (0, 0)) (zRetB (by omega)) ?_
      rw [← hQ2]
      show zW E (d - 1) 148 9 [(0, a0)] [(0, 0)] m0 Q1
      refine zw_R zr_148_9 (by decide) zm_148 (v := (0, 0)) (zRetB (by omega)) ?_
      rw [← hQ1]
      show zW E (d) 175 4 [(2, 69), (0, a0), (0, a1), (0, a2), (9, 0), (9, 0)] [(0, 0)] m0 Q
      refine zw_40_1 zr_175_4 ?_ ?_
      · intro h6
        refine zw_push zr_175_22 ?_
        refine zw_R zr_175_24 (by decide) zm_175 (v := (0, (-100000))) rfl ?_
        rw [← hQ]; exact ⟨_, rfl, by omega, by omega, hI0, hF0⟩
      · intro h7; omega
    · intro h8
      refine zw_push zr_140_13 ?_
      refine zw_42 zr_140_14 ?_
      refine zw_R zr_140_18 (by decide) zm_140 (v := (0, 1)) (zRetB (by omega)) ?_
      rw [← hQ2]
      show zW E (d - 1) 148 9 [(0, a0)] [(0, 1)] m0 Q1
      refine zw_R zr_148_9 (by decide) zm_148 (v := (0, 1)) (zRetB (by omega)) ?_
      rw [← hQ1]
      show zW E (d) 175 4 [(2, 69), (0, a0), (0, a1), (0, a2), (9, 0), (9, 0)] [(0, 1)] m0 Q
      refine zw_40_1 zr_175_4 ?_ ?_
      · intro h9; omega
      · intro h10
        refine zw_7 zr_175_7 rfl ?_
        refine zw_3 zr_175_8 rfl ?_
        refine zw_C zr_175_9 (Or.inl rfl) zm_143 rfl rfl ⟨Nat.le_of_ble_eq_true rfl, Nat.le_of_ble_eq_true rfl, Nat.le_of_ble_eq_true rfl, rfl, by decide⟩ (by omega) (P := (fun v m' => zW E (d) 175 12 [(2, 69), (0, a0), (0, a1), (0, a2), (9, 0), (9, 0)] (if v.1 = 9 then [] else v :: []) m' Q)) ?_ (fun _ _ h => h)
        generalize hQ1 : (fun v m' => zW E (d) 175 12 [(2, 69), (0, a0), (0, a1), (0, a2), (9, 0), (9, 0)] (if v.1 = 9 then [] else v :: []) m' Q) = Q1
        show zW E (d - 1) 143 0 [(2, 69), (0, a1)] [] m0 Q1
        refine zw_3 zr_143_0 rfl ?_
        refine zw_36 zr_143_1 ?_
        refine zw_push zr_143_2 ?_
        refine zw_7 zr_143_3 rfl ?_
        refine zw_C zr_143_4 (Or.inl rfl) zm_141 rfl rfl ⟨Nat.le_of_ble_eq_true rfl, Nat.le_of_ble_eq_true rfl, Nat.le_of_ble_eq_true rfl, rfl, by decide⟩ (by omega) (P := (fun v m' => zW E (d - 1) 143 7 [(2, 69), (0, a1)] (if v.1 = 9 then [(1, 0), (1, a1)] else v :: [(1, 0), (1, a1)]) m' Q1)) ?_ (fun _ _ h => h)
        generalize hQ2 : (fun v m' => zW E (d - 1) 143 7 [(2, 69), (0, a1)] (if v.1 = 9 then [(1, 0), (1, a1)] else v :: [(1, 0), (1, a1)]) m' Q1) = Q2
        show zW E (d - 1 - 1) 141 0 [(2, 69)] [] m0 Q2
        refine zw_7 zr_141_0 rfl ?_
        refine zw_46r (s := 70) zr_141_1 rfl rfl rfl rfl ?_
        refine zw_push zr_141_4 ?_
        obtain ⟨f11, ef11⟩ : ∃ v, m0 70 822 = v := ⟨_, rfl⟩
        have bf11 : 0 ≤ m0 70 822 ∧ m0 70 822 ≤ 10 := ib_70_players hI0 (by omega)
        rw [ef11] at bf11
        refine zw_48k (c := 70) (len := 826) zr_141_7 rfl rfl (by omega) (by omega) (show (822 : Int).toNat = 822 by omega) ef11 ?_
        refine zw_R zr_141_8 (by decide) zm_141 (v := (0, f11)) rfl ?_
        rw [← hQ2]
        show zW E (d - 1) 143 7 [(2, 69), (0, a1)] [(0, f11), (1, 0), (1, a1)] m0 Q1
        refine zw_push zr_143_7 ?_
        refine zw_17 zr_143_8 (by omega) ?_
        refine zw_36 zr_143_9 ?_
        refine zw_C zr_143_10 (Or.inr rfl) zm_140 rfl rfl ⟨Nat.le_of_ble_eq_true rfl, Nat.le_of_ble_eq_true rfl, Nat.le_of_ble_eq_true rfl, rfl, by decide⟩ (by omega) (P := (fun v m' => zW E (d - 1) 143 13 [(2, 69), (0, a1)] (if v.1 = 9 then [] else v :: []) m' Q1)) ?_ (fun _ _ h => h)
        generalize hQ2 : (fun v m' => zW E (d - 1) 143 13 [(2, 69), (0, a1)] (if v.1 = 9 then [] else v :: []) m' Q1) = Q2
        show zW E (d - 1 - 1) 140 0 [(1, a1), (9, 0), (1, 0), (9, 0), (1, (f11 - 1)), (9, 0)] [] m0 Q2
        refine zw_5 zr_140_0 rfl ?_
        refine zw_5 zr_140_1 rfl ?_
        refine zw_39_0 zr_140_2 zr_140_3 ?_ ?_
        · intro h12
          refine zw_push zr_140_17 ?_
          refine zw_R zr_140_18 (by decide) zm_140 (v := (0, 0)) (zRetB (by omega)) ?_
          rw [← hQ2]
          show zW E (d - 1) 143 13 [(2, 69), (0, a1)] [(0, 0)] m0 Q1
          refine zw_R zr_143_13 (by decide) zm_143 (v := (0, 0)) (zRetB (by omega)) ?_
          rw [← hQ1]
          show zW E (d) 175 12 [(2, 69), (0, a0), (0, a1), (0, a2), (9, 0), (9, 0)] [(0, 0)] m0 Q
          refine zw_40_1 zr_175_12 ?_ ?_
          · intro h13
            refine zw_push zr_175_22 ?_
            refine zw_R zr_175_24 (by decide) zm_175 (v := (0, (-100000))) rfl ?_
            rw [← hQ]; exact ⟨_, rfl, by omega, by omega, hI0, hF0⟩
          · intro h14; omega
        · intro h15
          refine zw_5 zr_140_6 rfl ?_
          refine zw_6 zr_140_7 rfl ?_
          refine zw_39_2 zr_140_9 zr_140_10 ?_ ?_
          · intro h16
            refine zw_push zr_140_17 ?_
            refine zw_R zr_140_18 (by decide) zm_140 (v := (0, 0)) (zRetB (by omega)) ?_
            rw [← hQ2]
            show zW E (d - 1) 143 13 [(2, 69), (0, a1)] [(0, 0)] m0 Q1
            refine zw_R zr_143_13 (by decide) zm_143 (v := (0, 0)) (zRetB (by omega)) ?_
            rw [← hQ1]
            show zW E (d) 175 12 [(2, 69), (0, a0), (0, a1), (0, a2), (9, 0), (9, 0)] [(0, 0)] m0 Q
            refine zw_40_1 zr_175_12 ?_ ?_
            · intro h17
              refine zw_push zr_175_22 ?_
              refine zw_R zr_175_24 (by decide) zm_175 (v := (0, (-100000))) rfl ?_
              rw [← hQ]; exact ⟨_, rfl, by omega, by omega, hI0, hF0⟩
            · intro h18; omega
          · intro h19
            refine zw_push zr_140_13 ?_
            refine zw_42 zr_140_14 ?_
            refine zw_R zr_140_18 (by decide) zm_140 (v := (0, 1)) (zRetB (by omega)) ?_
            rw [← hQ2]
            show zW E (d - 1) 143 13 [(2, 69), (0, a1)] [(0, 1)] m0 Q1
            refine zw_R zr_143_13 (by decide) zm_143 (v := (0, 1)) (zRetB (by omega)) ?_
            rw [← hQ1]
            show zW E (d) 175 12 [(2, 69), (0, a0), (0, a1), (0, a2), (9, 0), (9, 0)] [(0, 1)] m0 Q
            refine zw_40_1 zr_175_12 ?_ ?_
            · intro h20; omega
            · intro h21
              refine zw_3 zr_175_15 rfl ?_
              refine zw_C zr_175_16 (Or.inr rfl) zm_169 rfl rfl ⟨Nat.le_of_ble_eq_true rfl, Nat.le_of_ble_eq_true rfl, Nat.le_of_ble_eq_true rfl, rfl, by decide⟩ (by omega) (P := (fun v m' => zW E (d) 175 19 [(2, 69), (0, a0), (0, a1), (0, a2), (9, 0), (9, 0)] (if v.1 = 9 then [] else v :: []) m' Q)) ?_ (fun _ _ h => h)
              generalize hQ1 : (fun v m' => zW E (d) 175 19 [(2, 69), (0, a0), (0, a1), (0, a2), (9, 0), (9, 0)] (if v.1 = 9 then [] else v :: []) m' Q) = Q1
              show zW E (d - 1) 169 0 [(0, a2)] [] m0 Q1
              refine zw_3 zr_169_0 rfl ?_
              refine zw_36 zr_169_1 ?_
              refine zw_push zr_169_2 ?_
              refine zw_push zr_169_3 ?_
              refine zw_C zr_169_6 (Or.inr rfl) zm_140 rfl rfl ⟨Nat.le_of_ble_eq_true rfl, Nat.le_of_ble_eq_true rfl, Nat.le_of_ble_eq_true rfl, rfl, by decide⟩ (by omega) (P := (fun v m' => zW E (d - 1) 169 9 [(0, a2)] (if v.1 = 9 then [] else v :: []) m' Q1)) ?_ (fun _ _ h => h)
              generalize hQ2 : (fun v m' => zW E (d - 1) 169 9 [(0, a2)] (if v.1 = 9 then [] else v :: []) m' Q1) = Q2
              show zW E (d - 1 - 1) 140 0 [(1, a2), (9, 0), (1, 0), (9, 0), (1, 99), (9, 0)] [] m0 Q2
              refine zw_5 zr_140_0 rfl ?_
              refine zw_5 zr_140_1 rfl ?_
              refine zw_39_0 zr_140_2 zr_140_3 ?_ ?_
              · intro h22
                refine zw_push zr_140_17 ?_
                refine zw_R zr_140_18 (by decide) zm_140 (v := (0, 0)) (zRetB (by omega)) ?_
                rw [← hQ2]
                show zW E (d - 1) 169 9 [(0, a2)] [(0, 0)] m0 Q1
                refine zw_R zr_169_9 (by decide) zm_169 (v := (0, 0)) (zRetB (by omega)) ?_
                rw [← hQ1]
                show zW E (d) 175 19 [(2, 69), (0, a0), (0, a1), (0, a2), (9, 0), (9, 0)] [(0, 0)] m0 Q
                refine zw_40_4 zr_175_19 ?_ ?_
                · intro h23; omega
                · intro h24
                  refine zw_push zr_175_22 ?_
                  refine zw_R zr_175_24 (by decide) zm_175 (v := (0, (-100000))) rfl ?_
                  rw [← hQ]; exact ⟨_, rfl, by omega, by omega, hI0, hF0⟩
              · intro h25
                refine zw_5 zr_140_6 rfl ?_
                refine zw_6 zr_140_7 rfl ?_
                refine zw_39_2 zr_140_9 zr_140_10 ?_ ?_
                · intro h26
                  refine zw_push zr_140_17 ?_
                  refine zw_R zr_140_18 (by decide) zm_140 (v := (0, 0)) (zRetB (by omega)) ?_
                  rw [← hQ2]
                  show zW E (d - 1) 169 9 [(0, a2)] [(0, 0)] m0 Q1
                  refine zw_R zr_169_9 (by decide) zm_169 (v := (0, 0)) (zRetB (by omega)) ?_
                  rw [← hQ1]
                  show zW E (d) 175 19 [(2, 69), (0, a0), (0, a1), (0, a2), (9, 0), (9, 0)] [(0, 0)] m0 Q
                  refine zw_40_4 zr_175_19 ?_ ?_
                  · intro h27; omega
                  · intro h28
                    refine zw_push zr_175_22 ?_
                    refine zw_R zr_175_24 (by decide) zm_175 (v := (0, (-100000))) rfl ?_
                    rw [← hQ]; exact ⟨_, rfl, by omega, by omega, hI0, hF0⟩
                · intro h29
                  refine zw_push zr_140_13 ?_
                  refine zw_42 zr_140_14 ?_
                  refine zw_R zr_140_18 (by decide) zm_140 (v := (0, 1)) (zRetB (by omega)) ?_
                  rw [← hQ2]
                  show zW E (d - 1) 169 9 [(0, a2)] [(0, 1)] m0 Q1
                  refine zw_R zr_169_9 (by decide) zm_169 (v := (0, 1)) (zRetB (by omega)) ?_
                  rw [← hQ1]
                  show zW E (d) 175 19 [(2, 69), (0, a0), (0, a1), (0, a2), (9, 0), (9, 0)] [(0, 1)] m0 Q
                  refine zw_40_4 zr_175_19 ?_ ?_
                  · intro h30
                    refine zw_7 zr_175_25 rfl ?_
                    refine zw_3 zr_175_26 rfl ?_
                    refine zw_push zr_175_27 ?_
                    refine zw_C zr_175_29 (Or.inl rfl) zm_167 rfl rfl ⟨Nat.le_of_ble_eq_true rfl, Nat.le_of_ble_eq_true rfl, Nat.le_of_ble_eq_true rfl, rfl, by decide⟩ (by omega) (th_167 (d := d - 1) (by omega) hI0 (a0 := a0) (a1 := 99)      (by omega) (by omega) ) ?_
                    rintro _ m31 ⟨rfl, hIm31, gm31⟩
                    have hFm31 : zFr W_175 m0 m31 := hF0.trans gm31 rfl
                    have km31_70_822 : m31 70 822 = f11 := (gm31 70 822 rfl).trans ef11
                    show zW E (d) 175 32 [(2, 69), (0, a0), (0, a1), (0, a2), (9, 0), (9, 0)] [] m31 Q
                    refine zw_7 zr_175_32 rfl ?_
                    refine zw_46r (s := 76) zr_175_33 rfl rfl rfl rfl ?_
                    refine zw_3 zr_175_36 rfl ?_
                    refine zw_48 (c := 76) (len := 10) zr_175_37 rfl rfl (by omega) (by omega) ?_
                    intro x32 ex32
                    have bx32 := hIm31.ra (c := 76) (len := 10) (k := (a1).toNat) rfl (by omega)
                    rw [← ex32] at bx32
                    clear ex32
                    refine zw_10 (L' := [(2, 69), (0, a0), (0, a1), (0, a2), (0, x32), (9, 0)]) zr_175_38 (Nat.le_of_ble_eq_true rfl) rfl ?_
                    refine zw_7 zr_175_40 rfl ?_
                    refine zw_3 zr_175_41 rfl ?_
                    refine zw_C zr_175_42 (Or.inl rfl) zm_164 rfl rfl ⟨Nat.le_of_ble_eq_true rfl, Nat.le_of_ble_eq_true rfl, Nat.le_of_ble_eq_true rfl, rfl, by decide⟩ (by omega) (th_164 (d := d - 1) (by omega) hIm31 (a0 := a0)      (by omega) ) ?_
                    rintro _ m33 ⟨rfl, hIm33, gm33⟩
                    have hFm33 : zFr W_175 m0 m33 := hFm31.trans gm33 rfl
                    have km33_70_822 : m33 70 822 = f11 := (gm33 70 822 rfl).trans km31_70_822
                    show zW E (d) 175 45 [(2, 69), (0, a0), (0, a1), (0, a2), (0, x32), (9, 0)] [] m33 Q
                    refine zw_push zr_175_45 ?_
                    refine zw_10 (L' := [(2, 69), (0, a0), (0, a1), (0, a2), (0, x32), (0, 0)]) zr_175_46 (Nat.le_of_ble_eq_true rfl) rfl ?_
                    have lp48_36 : ∀ (nlp48_36 : Nat) (i34 : Int) (m35 : zM), zInv m35 → zFr W_175 m0 m35 → m35 70 822 = f11 → 0 ≤ i34 → i34 ≤ 60 → (60 - i34).toNat < nlp48_36 → zW E (d) 175 48 [(2, 69), (0, a0), (0, a1), (0, a2), (0, x32), (0, i34)] [] m35 Q := by
                      intro nlp48_36
                      induction nlp48_36 with
                      | zero =>
                        intros
                        exact absurd (by assumption : _ < 0) (Nat.not_lt_zero _)
                      | succ nlp48_36 ihlp48_36 =>
                        intro i34 m35 hIm35 hFm35 km35_70_822 li34 ui34 hmlp48_36
                        refine zw_4 zr_175_48 rfl ?_
                        refine zw_7 zr_175_50 rfl ?_
                        refine zw_C zr_175_51 (Or.inl rfl) zm_142 rfl rfl ⟨Nat.le_of_ble_eq_true rfl, Nat.le_of_ble_eq_true rfl, Nat.le_of_ble_eq_true rfl, rfl, by decide⟩ (by omega) (P := (fun v m' => zW E (d) 175 54 [(2, 69), (0, a0), (0, a1), (0, a2), (0, x32), (0, i34)] (if v.1 = 9 then [(0, i34)] else v :: [(0, i34)]) m' Q)) ?_ (fun _ _ h => h)
                        generalize hQ1 : (fun v m' => zW E (d) 175 54 [(2, 69), (0, a0), (0, a1), (0, a2), (0, x32), (0, i34)] (if v.1 = 9 then [(0, i34)] else v :: [(0, i34)]) m' Q) = Q1
                        show zW E (d - 1) 142 0 [(2, 69)] [] m35 Q1
                        refine zw_7 zr_142_0 rfl ?_
                        refine zw_46r (s := 70) zr_142_1 rfl rfl rfl rfl ?_
                        refine zw_push zr_142_4 ?_
                        obtain ⟨f38, ef38⟩ : ∃ v, m35 70 823 = v := ⟨_, rfl⟩
                        have bf38 : 0 ≤ m35 70 823 ∧ m35 70 823 ≤ 60 := ib_70_meetings hIm35 (by omega)
                        rw [ef38] at bf38
                        refine zw_48k (c := 70) (len := 826) zr_142_7 rfl rfl (by omega) (by omega) (show (823 : Int).toNat = 823 by omega) ef38 ?_
                        refine zw_R zr_142_8 (by decide) zm_142 (v := (0, f38)) rfl ?_
                        rw [← hQ1]
                        show zW E (d) 175 54 [(2, 69), (0, a0), (0, a1), (0, a2), (0, x32), (0, i34)] [(0, f38), (0, i34)] m35 Q
                        refine zw_41_3 zr_175_54 ?_ ?_
                        · intro h39
                          refine zw_7 zr_175_91 rfl ?_
                          refine zw_46r (s := 76) zr_175_92 rfl rfl rfl rfl ?_
                          refine zw_3 zr_175_95 rfl ?_
                          refine zw_48 (c := 76) (len := 10) zr_175_96 rfl rfl (by omega) (by omega) ?_
                          intro x40 ex40
                          have bx40 := hIm35.ra (c := 76) (len := 10) (k := (a1).toNat) rfl (by omega)
                          rw [← ex40] at bx40
                          clear ex40
                          refine zw_4 zr_175_97 rfl ?_
                          refine zw_17h zr_175_99 ?_
                          intro x41 hx41a hx41b
                          refine zw_R zr_175_100 (by decide) zm_175 (v := (0, x41)) rfl ?_
                          rw [← hQ]; exact ⟨_, rfl, by omega, by omega, hIm35, hFm35⟩
                        · intro h42
                          refine zw_7 zr_175_57 rfl ?_
                          refine zw_4 zr_175_58 rfl ?_
                          refine zw_push zr_175_60 ?_
                          refine zw_C zr_175_61 (Or.inl rfl) zm_144 rfl rfl ⟨Nat.le_of_ble_eq_true rfl, Nat.le_of_ble_eq_true rfl, Nat.le_of_ble_eq_true rfl, rfl, by decide⟩ (by omega) (P := (fun v m' => zW E (d) 175 64 [(2, 69), (0, a0), (0, a1), (0, a2), (0, x32), (0, i34)] (if v.1 = 9 then [] else v :: []) m' Q)) ?_ (fun _ _ h => h)
                          generalize hQ1 : (fun v m' => zW E (d) 175 64 [(2, 69), (0, a0), (0, a1), (0, a2), (0, x32), (0, i34)] (if v.1 = 9 then [] else v :: []) m' Q) = Q1
                          show zW E (d - 1) 144 0 [(2, 69), (0, i34), (0, 0)] [] m35 Q1
                          refine zw_7 zr_144_0 rfl ?_
                          refine zw_46r (s := 70) zr_144_1 rfl rfl rfl rfl ?_
                          refine zw_push zr_144_4 ?_
                          refine zw_push zr_144_6 ?_
                          refine zw_3 zr_144_8 rfl ?_
                          refine zw_18 zr_144_9 (by omega) ?_
                          refine zw_16 zr_144_10 (by omega) ?_
                          refine zw_3 zr_144_11 rfl ?_
                          refine zw_16 zr_144_12 (by omega) ?_
                          refine zw_48 (c := 70) (len := 826) zr_144_13 rfl rfl (by omega) (by omega) ?_
                          intro x43 ex43
                          have bx43 := ib_70_m0 hIm35 (k := (((90 + (6 * i34)) + 0)).toNat) (by omega)
                          rw [← ex43] at bx43
                          clear ex43
                          refine zw_R zr_144_14 (by decide) zm_144 (v := (0, x43)) rfl ?_
                          rw [← hQ1]
                          show zW E (d) 175 64 [(2, 69), (0, a0), (0, a1), (0, a2), (0, x32), (0, i34)] [(0, x43)] m35 Q
                          refine zw_3 zr_175_64 rfl ?_
                          refine zw_41_4 zr_175_65 ?_ ?_
                          · intro h44
                            refine zw_7 zr_175_78 rfl ?_
                            refine zw_3 zr_175_79 rfl ?_
                            refine zw_4 zr_175_80 rfl ?_
                            refine zw_C zr_175_82 (Or.inl rfl) zm_166 rfl rfl ⟨Nat.le_of_ble_eq_true rfl, Nat.le_of_ble_eq_true rfl, Nat.le_of_ble_eq_true rfl, rfl, by decide⟩ (by omega) (th_166 (d := d - 1) (by omega) hIm35 (a0 := a0) (a1 := i34)      (by omega) (by omega) ) ?_
                            rintro _ m45 ⟨rfl, hIm45, gm45⟩
                            have hFm45 : zFr W_175 m0 m45 := hFm35.trans gm45 rfl
                            have km45_70_822 : m45 70 822 = f11 := (gm45 70 822 rfl).trans km35_70_822
                            have km45_70_823 : m45 70 823 = f38 := (gm45 70 823 rfl).trans ef38
                            show zW E (d) 175 85 [(2, 69), (0, a0), (0, a1), (0, a2), (0, x32), (0, i34)] [] m45 Q
                            refine zw_15 (c := 1) (L' := [(2, 69), (0, a0), (0, a1), (0, a2), (0, x32), (0, (i34 + 1))]) zr_175_85 rfl (by decide) (by omega) rfl ?_
                            refine zw_42 zr_175_88 ?_
                            exact zw_less (L := [(2, 69), (0, a0), (0, a1), (0, a2), (0, x32), (0, (i34 + 1))]) ⟨Or.inr rfl, Or.inr rfl, Or.inr rfl, Or.inr rfl, Or.inr rfl, Or.inr rfl, trivial⟩ (ihlp48_36 ((i34 + 1)) m45 hIm45 hFm45  km45_70_822 (by omega) (by omega)  (by omega))
                          · intro h46
                            refine zw_7 zr_175_68 rfl ?_
                            refine zw_4 zr_175_69 rfl ?_
                            refine zw_3 zr_175_71 rfl ?_
                            refine zw_C zr_175_72 (Or.inl rfl) zm_171 rfl rfl ⟨Nat.le_of_ble_eq_true rfl, Nat.le_of_ble_eq_true rfl, Nat.le_of_ble_eq_true rfl, rfl, by decide⟩ (by omega) (P := (fun v m' => zW E (d) 175 75 [(2, 69), (0, a0), (0, a1), (0, a2), (0, x32), (0, i34)] (if v.1 = 9 then [] else v :: []) m' Q)) ?_ (fun _ _ h => h)
                            generalize hQ1 : (fun v m' => zW E (d) 175 75 [(2, 69), (0, a0), (0, a1), (0, a2), (0, x32), (0, i34)] (if v.1 = 9 then [] else v :: []) m' Q) = Q1
                            show zW E (d - 1) 171 0 [(2, 69), (0, i34), (0, a1)] [] m35 Q1
                            refine zw_7 zr_171_0 rfl ?_
                            refine zw_3 zr_171_1 rfl ?_
                            refine zw_push zr_171_2 ?_
                            refine zw_C zr_171_3 (Or.inl rfl) zm_144 rfl rfl ⟨Nat.le_of_ble_eq_true rfl, Nat.le_of_ble_eq_true rfl, Nat.le_of_ble_eq_true rfl, rfl, by decide⟩ (by omega) (P := (fun v m' => zW E (d - 1) 171 6 [(2, 69), (0, i34), (0, a1)] (if v.1 = 9 then [] else v :: []) m' Q1)) ?_ (fun _ _ h => h)
                            generalize hQ2 : (fun v m' => zW E (d - 1) 171 6 [(2, 69), (0, i34), (0, a1)] (if v.1 = 9 then [] else v :: []) m' Q1) = Q2
                            show zW E (d - 1 - 1) 144 0 [(2, 69), (0, i34), (0, 1)] [] m35 Q2
                            refine zw_7 zr_144_0 rfl ?_
                            refine zw_46r (s := 70) zr_144_1 rfl rfl rfl rfl ?_
                            refine zw_push zr_144_4 ?_
                            refine zw_push zr_144_6 ?_
                            refine zw_3 zr_144_8 rfl ?_
                            refine zw_18 zr_144_9 (by omega) ?_
                            refine zw_16 zr_144_10 (by omega) ?_
                            refine zw_3 zr_144_11 rfl ?_
                            refine zw_16 zr_144_12 (by omega) ?_
                            refine zw_48 (c := 70) (len := 826) zr_144_13 rfl rfl (by omega) (by omega) ?_
                            intro x47 ex47
                            have bx47 := ib_70_m1 hIm35 (k := (((90 + (6 * i34)) + 1)).toNat) (by omega)
                            rw [← ex47] at bx47
                            clear ex47
                            refine zw_R zr_144_14 (by decide) zm_144 (v := (0, x47)) rfl ?_
                            rw [← hQ2]
                            show zW E (d - 1) 171 6 [(2, 69), (0, i34), (0, a1)] [(0, x47)] m35 Q1
                            refine zw_3 zr_171_6 rfl ?_
                            refine zw_41_1 zr_171_7 ?_ ?_
                            · intro h48
                              refine zw_push zr_171_20 ?_
                              refine zw_42 zr_171_21 ?_
                              refine zw_R zr_171_25 (by decide) zm_171 (v := (0, 1)) (zRetB (by omega)) ?_
                              rw [← hQ1]
                              show zW E (d) 175 75 [(2, 69), (0, a0), (0, a1), (0, a2), (0, x32), (0, i34)] [(0, 1)] m35 Q
                              refine zw_40_4 zr_175_75 ?_ ?_
                              · intro h49
                                refine zw_15 (c := 1) (L' := [(2, 69), (0, a0), (0, a1), (0, a2), (0, x32), (0, (i34 + 1))]) zr_175_85 rfl (by decide) (by omega) rfl ?_
                                refine zw_42 zr_175_88 ?_
                                exact zw_less (L := [(2, 69), (0, a0), (0, a1), (0, a2), (0, x32), (0, (i34 + 1))]) ⟨Or.inr rfl, Or.inr rfl, Or.inr rfl, Or.inr rfl, Or.inr rfl, Or.inr rfl, trivial⟩ (ihlp48_36 ((i34 + 1)) m35 hIm35 hFm35  km35_70_822 (by omega) (by omega)  (by omega))
                              · intro h50; omega
                            · intro h51
                              refine zw_7 zr_171_10 rfl ?_
                              refine zw_3 zr_171_11 rfl ?_
                              refine zw_push zr_171_12 ?_
                              refine zw_C zr_171_13 (Or.inl rfl) zm_144 rfl rfl ⟨Nat.le_of_ble_eq_true rfl, Nat.le_of_ble_eq_true rfl, Nat.le_of_ble_eq_true rfl, rfl, by decide⟩ (by omega) (P := (fun v m' => zW E (d - 1) 171 16 [(2, 69), (0, i34), (0, a1)] (if v.1 = 9 then [] else v :: []) m' Q1)) ?_ (fun _ _ h => h)
                              generalize hQ2 : (fun v m' => zW E (d - 1) 171 16 [(2, 69), (0, i34), (0, a1)] (if v.1 = 9 then [] else v :: []) m' Q1) = Q2
                              show zW E (d - 1 - 1) 144 0 [(2, 69), (0, i34), (0, 2)] [] m35 Q2
                              refine zw_7 zr_144_0 rfl ?_
                              refine zw_46r (s := 70) zr_144_1 rfl rfl rfl rfl ?_
                              refine zw_push zr_144_4 ?_
                              refine zw_push zr_144_6 ?_
                              refine zw_3 zr_144_8 rfl ?_
                              refine zw_18 zr_144_9 (by omega) ?_
                              refine zw_16 zr_144_10 (by omega) ?_
                              refine zw_3 zr_144_11 rfl ?_
                              refine zw_16 zr_144_12 (by omega) ?_
                              refine zw_48 (c := 70) (len := 826) zr_144_13 rfl rfl (by omega) (by omega) ?_
                              intro x52 ex52
                              have bx52 := ib_70_m2 hIm35 (k := (((90 + (6 * i34)) + 2)).toNat) (by omega)
                              rw [← ex52] at bx52
                              clear ex52
                              refine zw_R zr_144_14 (by decide) zm_144 (v := (0, x52)) rfl ?_
                              rw [← hQ2]
                              show zW E (d - 1) 171 16 [(2, 69), (0, i34), (0, a1)] [(0, x52)] m35 Q1
                              refine zw_3 zr_171_16 rfl ?_
                              refine zw_41_4 zr_171_17 ?_ ?_
                              · intro h53
                                refine zw_push zr_171_24 ?_
                                refine zw_R zr_171_25 (by decide) zm_171 (v := (0, 0)) (zRetB (by omega)) ?_
                                rw [← hQ1]
                                show zW E (d) 175 75 [(2, 69), (0, a0), (0, a1), (0, a2), (0, x32), (0, i34)] [(0, 0)] m35 Q
                                refine zw_40_4 zr_175_75 ?_ ?_
                                · intro h54; omega
                                · intro h55
                                  refine zw_7 zr_175_78 rfl ?_
                                  refine zw_3 zr_175_79 rfl ?_
                                  refine zw_4 zr_175_80 rfl ?_
                                  refine zw_C zr_175_82 (Or.inl rfl) zm_166 rfl rfl ⟨Nat.le_of_ble_eq_true rfl, Nat.le_of_ble_eq_true rfl, Nat.le_of_ble_eq_true rfl, rfl, by decide⟩ (by omega) (th_166 (d := d - 1) (by omega) hIm35 (a0 := a0) (a1 := i34)      (by omega) (by omega) ) ?_
                                  rintro _ m56 ⟨rfl, hIm56, gm56⟩
                                  have hFm56 : zFr W_175 m0 m56 := hFm35.trans gm56 rfl
                                  have km56_70_822 : m56 70 822 = f11 := (gm56 70 822 rfl).trans km35_70_822
                                  have km56_70_823 : m56 70 823 = f38 := (gm56 70 823 rfl).trans ef38
                                  show zW E (d) 175 85 [(2, 69), (0, a0), (0, a1), (0, a2), (0, x32), (0, i34)] [] m56 Q
                                  refine zw_15 (c := 1) (L' := [(2, 69), (0, a0), (0, a1), (0, a2), (0, x32), (0, (i34 + 1))]) zr_175_85 rfl (by decide) (by omega) rfl ?_
                                  refine zw_42 zr_175_88 ?_
                                  exact zw_less (L := [(2, 69), (0, a0), (0, a1), (0, a2), (0, x32), (0, (i34 + 1))]) ⟨Or.inr rfl, Or.inr rfl, Or.inr rfl, Or.inr rfl, Or.inr rfl, Or.inr rfl, trivial⟩ (ihlp48_36 ((i34 + 1)) m56 hIm56 hFm56  km56_70_822 (by omega) (by omega)  (by omega))
                              · intro h57
                                refine zw_push zr_171_20 ?_
                                refine zw_42 zr_171_21 ?_
                                refine zw_R zr_171_25 (by decide) zm_171 (v := (0, 1)) (zRetB (by omega)) ?_
                                rw [← hQ1]
                                show zW E (d) 175 75 [(2, 69), (0, a0), (0, a1), (0, a2), (0, x32), (0, i34)] [(0, 1)] m35 Q
                                refine zw_40_4 zr_175_75 ?_ ?_
                                · intro h58
                                  refine zw_15 (c := 1) (L' := [(2, 69), (0, a0), (0, a1), (0, a2), (0, x32), (0, (i34 + 1))]) zr_175_85 rfl (by decide) (by omega) rfl ?_
                                  refine zw_42 zr_175_88 ?_
                                  exact zw_less (L := [(2, 69), (0, a0), (0, a1), (0, a2), (0, x32), (0, (i34 + 1))]) ⟨Or.inr rfl, Or.inr rfl, Or.inr rfl, Or.inr rfl, Or.inr rfl, Or.inr rfl, trivial⟩ (ihlp48_36 ((i34 + 1)) m35 hIm35 hFm35  km35_70_822 (by omega) (by omega)  (by omega))
                                · intro h59; omega
                    exact lp48_36 _ (0) m33 hIm33 hFm33  km33_70_822 (by omega) (by omega)  (Nat.lt_succ_self _)
                  · intro h60; omega
