abbrev W_196 : List (Nat × Nat) := [(69, 3), (69, 4), (69, 5), (69, 6), (69, 7), (69, 9), (69, 11), (69, 13), (69, 17), (69, 18), (69, 23), (69, 24), (73, 1000), (74, 1000), (75, 1000), (76, 1000), (77, 1000), (78, 1000), (82, 1000)]
set_option maxHeartbeats 8000000 in
theorem th_196 {E : zE} {d : Nat} {m0 : zM} {a0 : Int} {a1 : Int} {a2 : Int} (hd : 9 ≤ d) (hI0 : zInv m0) (ha0 : (-2147483648) ≤ a0 ∧ a0 ≤ 2147483647) (ha1 : (-2147483648) ≤ a1 ∧ a1 ≤ 2147483647) (ha2 : (-2147483648) ≤ a2 ∧ a2 ≤ 2147483647) : zC E d 196 [(2, 69), (0, a0), (0, a1), (0, a2)] m0 (fun v m' => ∃ r : Int, v = (0, r) ∧ (-2) ≤ r ∧ r ≤ 9 ∧ zInv m' ∧ zFr W_196 m0 m') := by
  have hF0 : zFr W_196 m0 m0 := zFr.rfl
  generalize hQ : (fun (v : zV) (m' : zM) => ∃ r : Int, v = (0, r) ∧ (-2) ≤ r ∧ r ≤ 9 ∧ zInv m' ∧ zFr W_196 m0 m') = Q
  show zW E d 196 0 [(2, 69), (0, a0), (0, a1), (0, a2), (9, 0), (9, 0), (9, 0)] [] m0 Q
  refine zw_3 zr_196_0 rfl ?_
  refine zw_C zr_196_1 (Or.inr rfl) zm_148 rfl rfl ⟨Nat.le_of_ble_eq_true rfl, Nat.le_of_ble_eq_true rfl, Nat.le_of_ble_eq_true rfl, rfl, by decide⟩ (by omega) (P := (fun v m' => zW E (d) 196 4 [(2, 69), (0, a0), (0, a1), (0, a2), (9, 0), (9, 0), (9, 0)] (if v.1 = 9 then [] else v :: []) m' Q)) ?_ (fun _ _ h => h)
  generalize hQ1 : (fun v m' => zW E (d) 196 4 [(2, 69), (0, a0), (0, a1), (0, a2), (9, 0), (9, 0), (9, 0)] (if v.1 = 9 then [] else v :: []) m' Q) = Q1
  show zW E (d - 1) 148 0 [(0, a0)] [] m0 Q1
  refine zw_3 zr_148_0 rfl ?_
  refine zw_36 zr_148_1 ?_
  refine zw_push zr_148_2 ?_
  refine zw_push zr_148_3 ?_
  refine zw_C zr_148_6 (Or.inr rfl) zm_140 rfl rfl ⟨Nat.le_of_ble_eq_true rfl, Nat.le_of_ble_eq_true rfl, Nat.le_of_ble_eq_true rfl, rfl, by decide⟩ (by omega) (P := (fun v m' => zW E (d - 1) 148 9 [(0, a0)] (if v.1 = 9 then [] else v :: []) m' Q1)) ?_ (fun _ _ h => h)
  generalize hQ2 : (fun v m' => zW E (d - 1) 148 9 [(0, a0)] (if v.1 = 9 then [] else v :: []) m' Q1) = Q2
  show zW E (d - 1 - 1) 140 0 [(1, a0), (9, 0), (1, 0), (9, 0), (1, 3), (9, 0)] [] m0 Q2
  refine zw_5 zr_140_0 rfl ?_
  refine zw_5 zr_140_1 rfl ?_
  refine zw_39_0 zr_140_2 zr_140_3 ?_ ?_
  · intro h1
    refine zw_push zr_140_17 ?_
    refine zw_R zr_140_18 (by decide) zm_140 (v := (0, 0)) (zRetB (by omega)) ?_
    rw [← hQ2]
    show zW E (d - 1) 148 9 [(0, a0)] [(0, 0)] m0 Q1
    refine zw_R zr_148_9 (by decide) zm_148 (v := (0, 0)) (zRetB (by omega)) ?_
    rw [← hQ1]
    show zW E (d) 196 4 [(2, 69), (0, a0), (0, a1), (0, a2), (9, 0), (9, 0), (9, 0)] [(0, 0)] m0 Q
    refine zw_40_1 zr_196_4 ?_ ?_
    · intro h2
      refine zw_push zr_196_36 ?_
      refine zw_R zr_196_38 (by decide) zm_196 (v := (0, (-2))) rfl ?_
      rw [← hQ]; exact ⟨_, rfl, by omega, by omega, hI0, hF0⟩
    · intro h3; omega
  · intro h4
    refine zw_5 zr_140_6 rfl ?_
    refine zw_6 zr_140_7 rfl ?_
    refine zw_39_2 zr_140_9 zr_140_10 ?_ ?_
    · intro h5
      refine zw_push zr_140_17 ?_
      refine zw_R zr_140_18 (by decide) zm_140 (v := (0, 0)) (zRetB (by omega)) ?_
      rw [← hQ2]
      show zW E (d - 1) 148 9 [(0, a0)] [(0, 0)] m0 Q1
      refine zw_R zr_148_9 (by decide) zm_148 (v := (0, 0)) (zRetB (by omega)) ?_
      rw [← hQ1]
      show zW E (d) 196 4 [(2, 69), (0, a0), (0, a1), (0, a2), (9, 0), (9, 0), (9, 0)] [(0, 0)] m0 Q
      refine zw_40_1 zr_196_4 ?_ ?_
      · intro h6
        refine zw_push zr_196_36 ?_
        refine zw_R zr_196_38 (by decide) zm_196 (v := (0, (-2))) rfl ?_
        rw [← hQ]; exact ⟨_, rfl, by omega, by omega, hI0, hF0⟩
      · intro h7; omega
    · intro h8
      refine zw_push zr_140_13 ?_
      refine zw_42 zr_140_14 ?_
      refine zw_R zr_140_18 (by decide) zm_140 (v := (0, 1)) (zRetB (by omega)) ?_
      rw [← hQ2]
      show zW E (d - 1) 148 9 [(0, a0)] [(0, 1)] m0 Q1
      refine zw_R zr_148_9 (by decide) zm_148 (v := (0, 1)) (zRetB (by omega)) ?_
      rw [← hQ1]
      show zW E (d) 196 4 [(2, 69), (0, a0), (0, a1), (0, a2), (9, 0), (9, 0), (9, 0)] [(0, 1)] m0 Q
      refine zw_40_1 zr_196_4 ?_ ?_
      · intro h9; omega
      · intro h10
        refine zw_3 zr_196_7 rfl ?_
        refine zw_36 zr_196_8 ?_
        refine zw_push zr_196_9 ?_
        refine zw_push zr_196_10 ?_
        refine zw_C zr_196_13 (Or.inr rfl) zm_140 rfl rfl ⟨Nat.le_of_ble_eq_true rfl, Nat.le_of_ble_eq_true rfl, Nat.le_of_ble_eq_true rfl, rfl, by decide⟩ (by omega) (P := (fun v m' => zW E (d) 196 16 [(2, 69), (0, a0), (0, a1), (0, a2), (9, 0), (9, 0), (9, 0)] (if v.1 = 9 then [] else v :: []) m' Q)) ?_ (fun _ _ h => h)
        generalize hQ1 : (fun v m' => zW E (d) 196 16 [(2, 69), (0, a0), (0, a1), (0, a2), (9, 0), (9, 0), (9, 0)] (if v.1 = 9 then [] else v :: []) m' Q) = Q1
        show zW E (d - 1) 140 0 [(1, a1), (9, 0), (1, 0), (9, 0), (1, 2), (9, 0)] [] m0 Q1
        refine zw_5 zr_140_0 rfl ?_
        refine zw_5 zr_140_1 rfl ?_
        refine zw_39_0 zr_140_2 zr_140_3 ?_ ?_
        · intro h11
          refine zw_push zr_140_17 ?_
          refine zw_R zr_140_18 (by decide) zm_140 (v := (0, 0)) (zRetB (by omega)) ?_
          rw [← hQ1]
          show zW E (d) 196 16 [(2, 69), (0, a0), (0, a1), (0, a2), (9, 0), (9, 0), (9, 0)] [(0, 0)] m0 Q
          refine zw_40_1 zr_196_16 ?_ ?_
          · intro h12
            refine zw_push zr_196_36 ?_
            refine zw_R zr_196_38 (by decide) zm_196 (v := (0, (-2))) rfl ?_
            rw [← hQ]; exact ⟨_, rfl, by omega, by omega, hI0, hF0⟩
          · intro h13; omega
        · intro h14
          refine zw_5 zr_140_6 rfl ?_
          refine zw_6 zr_140_7 rfl ?_
          refine zw_39_2 zr_140_9 zr_140_10 ?_ ?_
          · intro h15
            refine zw_push zr_140_17 ?_
            refine zw_R zr_140_18 (by decide) zm_140 (v := (0, 0)) (zRetB (by omega)) ?_
            rw [← hQ1]
            show zW E (d) 196 16 [(2, 69), (0, a0), (0, a1), (0, a2), (9, 0), (9, 0), (9, 0)] [(0, 0)] m0 Q
            refine zw_40_1 zr_196_16 ?_ ?_
            · intro h16
              refine zw_push zr_196_36 ?_
              refine zw_R zr_196_38 (by decide) zm_196 (v := (0, (-2))) rfl ?_
              rw [← hQ]; exact ⟨_, rfl, by omega, by omega, hI0, hF0⟩
            · intro h17; omega
          · intro h18
            refine zw_push zr_140_13 ?_
            refine zw_42 zr_140_14 ?_
            refine zw_R zr_140_18 (by decide) zm_140 (v := (0, 1)) (zRetB (by omega)) ?_
            rw [← hQ1]
            show zW E (d) 196 16 [(2, 69), (0, a0), (0, a1), (0, a2), (9, 0), (9, 0), (9, 0)] [(0, 1)] m0 Q
            refine zw_40_1 zr_196_16 ?_ ?_
            · intro h19; omega
            · intro h20
              refine zw_3 zr_196_19 rfl ?_
              refine zw_push zr_196_20 ?_
              refine zw_41_4 zr_196_21 ?_ ?_
              · intro h21
                refine zw_3 zr_196_39 rfl ?_
                refine zw_push zr_196_40 ?_
                refine zw_41_4 zr_196_41 ?_ ?_
                · intro h22
                  refine zw_push zr_196_50 ?_
                  refine zw_10 (L' := [(2, 69), (0, a0), (0, a1), (0, a2), (0, (-1)), (9, 0), (9, 0)]) zr_196_51 (Nat.le_of_ble_eq_true rfl) rfl ?_
                  refine zw_push zr_196_53 ?_
                  refine zw_10 (L' := [(2, 69), (0, a0), (0, a1), (0, a2), (0, (-1)), (0, 0), (9, 0)]) zr_196_54 (Nat.le_of_ble_eq_true rfl) rfl ?_
                  refine zw_push zr_196_56 ?_
                  refine zw_10 (L' := [(2, 69), (0, a0), (0, a1), (0, a2), (0, (-1)), (0, 0), (0, 0)]) zr_196_57 (Nat.le_of_ble_eq_true rfl) rfl ?_
                  have lp59_27 : ∀ (nlp59_27 : Nat) (i23 i24 i25 : Int) (m26 : zM), zInv m26 → zFr W_196 m0 m26 → (-1) ≤ i23 → i23 ≤ 9 → (-2147483648) ≤ i24 → i24 ≤ 2147483647 → 0 ≤ i25 → i25 ≤ 10 → (10 - i25).toNat < nlp59_27 → zW E (d) 196 59 [(2, 69), (0, a0), (0, a1), (0, a2), (0, i23), (0, i24), (0, i25)] [] m26 Q := by
                    intro nlp59_27
                    induction nlp59_27 with
                    | zero =>
                      intros
                      exact absurd (by assumption : _ < 0) (Nat.not_lt_zero _)
                    | succ nlp59_27 ihlp59_27 =>
                      intro i23 i24 i25 m26 hIm26 hFm26 li23 ui23 li24 ui24 li25 ui25 hmlp59_27
                      refine zw_4 zr_196_59 rfl ?_
                      refine zw_7 zr_196_61 rfl ?_
                      refine zw_C zr_196_62 (Or.inl rfl) zm_141 rfl rfl ⟨Nat.le_of_ble_eq_true rfl, Nat.le_of_ble_eq_true rfl, Nat.le_of_ble_eq_true rfl, rfl, by decide⟩ (by omega) (P := (fun v m' => zW E (d) 196 65 [(2, 69), (0, a0), (0, a1), (0, a2), (0, i23), (0, i24), (0, i25)] (if v.1 = 9 then [(0, i25)] else v :: [(0, i25)]) m' Q)) ?_ (fun _ _ h => h)
                      generalize hQ1 : (fun v m' => zW E (d) 196 65 [(2, 69), (0, a0), (0, a1), (0, a2), (0, i23), (0, i24), (0, i25)] (if v.1 = 9 then [(0, i25)] else v :: [(0, i25)]) m' Q) = Q1
                      show zW E (d - 1) 141 0 [(2, 69)] [] m26 Q1
                      refine zw_7 zr_141_0 rfl ?_
                      refine zw_46r (s := 70) zr_141_1 rfl rfl rfl rfl ?_
                      refine zw_push zr_141_4 ?_
                      obtain ⟨f29, ef29⟩ : ∃ v, m26 70 822 = v := ⟨_, rfl⟩
                      have bf29 : 0 ≤ m26 70 822 ∧ m26 70 822 ≤ 10 := ib_70_players hIm26 (by omega)
                      rw [ef29] at bf29
                      refine zw_48k (c := 70) (len := 826) zr_141_7 rfl rfl (by omega) (by omega) (show (822 : Int).toNat = 822 by omega) ef29 ?_
                      refine zw_R zr_141_8 (by decide) zm_141 (v := (0, f29)) rfl ?_
                      rw [← hQ1]
                      show zW E (d) 196 65 [(2, 69), (0, a0), (0, a1), (0, a2), (0, i23), (0, i24), (0, i25)] [(0, f29), (0, i25)] m26 Q
                      refine zw_41_3 zr_196_65 ?_ ?_
                      · intro h30
                        refine zw_4 zr_196_118 rfl ?_
                        refine zw_R zr_196_120 (by decide) zm_196 (v := (0, i23)) rfl ?_
                        rw [← hQ]; exact ⟨_, rfl, by omega, by omega, hIm26, hFm26⟩
                      · intro h31
                        refine zw_7 zr_196_68 rfl ?_
                        refine zw_3 zr_196_69 rfl ?_
                        refine zw_4 zr_196_70 rfl ?_
                        refine zw_3 zr_196_72 rfl ?_
                        refine zw_40_4 zr_196_73 ?_ ?_
                        · intro h32
                          refine zw_3 zr_196_80 rfl ?_
                          refine zw_C zr_196_81 (Or.inl rfl) zm_194 rfl rfl ⟨Nat.le_of_ble_eq_true rfl, Nat.le_of_ble_eq_true rfl, Nat.le_of_ble_eq_true rfl, rfl, by decide⟩ (by omega) (th_194 (d := d - 1) (by omega) hIm26 (a0 := a0) (a1 := i25) (a2 := a2)      (by omega) (by omega) (by omega) ) ?_
                          rintro _ m33 ⟨r34, rfl, hr34a, hr34b, hIm33, gm33⟩
                          have hFm33 : zFr W_196 m0 m33 := hFm26.trans gm33 rfl
                          have km33_70_822 : m33 70 822 = f29 := (gm33 70 822 rfl).trans ef29
                          show zW E (d) 196 84 [(2, 69), (0, a0), (0, a1), (0, a2), (0, i23), (0, i24), (0, i25)] [(0, r34)] m33 Q
                          refine zw_40_1 zr_196_84 ?_ ?_
                          · intro h35
                            refine zw_15 (c := 1) (L' := [(2, 69), (0, a0), (0, a1), (0, a2), (0, i23), (0, i24), (0, (i25 + 1))]) zr_196_112 rfl (by decide) (by omega) rfl ?_
                            refine zw_42 zr_196_115 ?_
                            exact zw_less (L := [(2, 69), (0, a0), (0, a1), (0, a2), (0, i23), (0, i24), (0, (i25 + 1))]) ⟨Or.inr rfl, Or.inr rfl, Or.inr rfl, Or.inr rfl, Or.inr rfl, Or.inr rfl, Or.inr rfl, trivial⟩ (ihlp59_27 (i23) (i24) ((i25 + 1)) m33 hIm33 hFm33   (by omega) (by omega) (by omega) (by omega) (by omega) (by omega)  (by omega))
                          · intro h36
                            refine zw_4 zr_196_87 rfl ?_
                            refine zw_push zr_196_89 ?_
                            refine zw_41_1 zr_196_90 ?_ ?_
                            · intro h37
                              refine zw_4 zr_196_102 rfl ?_
                              refine zw_10 (L' := [(2, 69), (0, a0), (0, a1), (0, a2), (0, i25), (0, i24), (0, i25)]) zr_196_104 (Nat.le_of_ble_eq_true rfl) rfl ?_
                              refine zw_7 zr_196_106 rfl ?_
                              obtain ⟨f38, ef38⟩ : ∃ v, m33 69 24 = v := ⟨_, rfl⟩
                              have bf38 := hIm33.fi (c := 69) (k := 24) rfl
                              rw [ef38] at bf38
                              refine zw_46i zr_196_107 ef38 rfl rfl rfl ?_
                              refine zw_10 (L' := [(2, 69), (0, a0), (0, a1), (0, a2), (0, i25), (0, f38), (0, i25)]) zr_196_110 (Nat.le_of_ble_eq_true rfl) rfl ?_
                              refine zw_15 (c := 1) (L' := [(2, 69), (0, a0), (0, a1), (0, a2), (0, i25), (0, f38), (0, (i25 + 1))]) zr_196_112 rfl (by decide) (by omega) rfl ?_
                              refine zw_42 zr_196_115 ?_
                              exact zw_less (L := [(2, 69), (0, a0), (0, a1), (0, a2), (0, i25), (0, f38), (0, (i25 + 1))]) ⟨Or.inr rfl, Or.inr rfl, Or.inr rfl, Or.inr rfl, Or.inr rfl, Or.inr rfl, Or.inr rfl, trivial⟩ (ihlp59_27 (i25) (f38) ((i25 + 1)) m33 hIm33 hFm33   (by omega) (by omega) (by omega) (by omega) (by omega) (by omega)  (by omega))
                            · intro h39
                              refine zw_7 zr_196_93 rfl ?_
                              obtain ⟨f40, ef40⟩ : ∃ v, m33 69 24 = v := ⟨_, rfl⟩
                              have bf40 := hIm33.fi (c := 69) (k := 24) rfl
                              rw [ef40] at bf40
                              refine zw_46i zr_196_94 ef40 rfl rfl rfl ?_
                              refine zw_4 zr_196_97 rfl ?_
                              refine zw_41_5 zr_196_99 ?_ ?_
                              · intro h41
                                refine zw_15 (c := 1) (L' := [(2, 69), (0, a0), (0, a1), (0, a2), (0, i23), (0, i24), (0, (i25 + 1))]) zr_196_112 rfl (by decide) (by omega) rfl ?_
                                refine zw_42 zr_196_115 ?_
                                exact zw_less (L := [(2, 69), (0, a0), (0, a1), (0, a2), (0, i23), (0, i24), (0, (i25 + 1))]) ⟨Or.inr rfl, Or.inr rfl, Or.inr rfl, Or.inr rfl, Or.inr rfl, Or.inr rfl, Or.inr rfl, trivial⟩ (ihlp59_27 (i23) (i24) ((i25 + 1)) m33 hIm33 hFm33   (by omega) (by omega) (by omega) (by omega) (by omega) (by omega)  (by omega))
                              · intro h42
                                refine zw_4 zr_196_102 rfl ?_
                                refine zw_10 (L' := [(2, 69), (0, a0), (0, a1), (0, a2), (0, i25), (0, i24), (0, i25)]) zr_196_104 (Nat.le_of_ble_eq_true rfl) rfl ?_
                                refine zw_7 zr_196_106 rfl ?_
                                refine zw_46i zr_196_107 ef40 rfl rfl rfl ?_
                                refine zw_10 (L' := [(2, 69), (0, a0), (0, a1), (0, a2), (0, i25), (0, f40), (0, i25)]) zr_196_110 (Nat.le_of_ble_eq_true rfl) rfl ?_
                                refine zw_15 (c := 1) (L' := [(2, 69), (0, a0), (0, a1), (0, a2), (0, i25), (0, f40), (0, (i25 + 1))]) zr_196_112 rfl (by decide) (by omega) rfl ?_
                                refine zw_42 zr_196_115 ?_
                                exact zw_less (L := [(2, 69), (0, a0), (0, a1), (0, a2), (0, i25), (0, f40), (0, (i25 + 1))]) ⟨Or.inr rfl, Or.inr rfl, Or.inr rfl, Or.inr rfl, Or.inr rfl, Or.inr rfl, Or.inr rfl, trivial⟩ (ihlp59_27 (i25) (f40) ((i25 + 1)) m33 hIm33 hFm33   (by omega) (by omega) (by omega) (by omega) (by omega) (by omega)  (by omega))
                        · intro h43
                          refine zw_push zr_196_76 ?_
                          refine zw_42 zr_196_77 ?_
                          refine zw_C zr_196_81 (Or.inl rfl) zm_194 rfl rfl ⟨Nat.le_of_ble_eq_true rfl, Nat.le_of_ble_eq_true rfl, Nat.le_of_ble_eq_true rfl, rfl, by decide⟩ (by omega) (th_194 (d := d - 1) (by omega) hIm26 (a0 := a0) (a1 := i25) (a2 := 1)      (by omega) (by omega) (by omega) ) ?_
                          rintro _ m44 ⟨r45, rfl, hr45a, hr45b, hIm44, gm44⟩
                          have hFm44 : zFr W_196 m0 m44 := hFm26.trans gm44 rfl
                          have km44_70_822 : m44 70 822 = f29 := (gm44 70 822 rfl).trans ef29
                          show zW E (d) 196 84 [(2, 69), (0, a0), (0, a1), (0, a2), (0, i23), (0, i24), (0, i25)] [(0, r45)] m44 Q
                          refine zw_40_1 zr_196_84 ?_ ?_
                          · intro h46
                            refine zw_15 (c := 1) (L' := [(2, 69), (0, a0), (0, a1), (0, a2), (0, i23), (0, i24), (0, (i25 + 1))]) zr_196_112 rfl (by decide) (by omega) rfl ?_
                            refine zw_42 zr_196_115 ?_
                            exact zw_less (L := [(2, 69), (0, a0), (0, a1), (0, a2), (0, i23), (0, i24), (0, (i25 + 1))]) ⟨Or.inr rfl, Or.inr rfl, Or.inr rfl, Or.inr rfl, Or.inr rfl, Or.inr rfl, Or.inr rfl, trivial⟩ (ihlp59_27 (i23) (i24) ((i25 + 1)) m44 hIm44 hFm44   (by omega) (by omega) (by omega) (by omega) (by omega) (by omega)  (by omega))
                          · intro h47
                            refine zw_4 zr_196_87 rfl ?_
                            refine zw_push zr_196_89 ?_
                            refine zw_41_1 zr_196_90 ?_ ?_
                            · intro h48
                              refine zw_4 zr_196_102 rfl ?_
                              refine zw_10 (L' := [(2, 69), (0, a0), (0, a1), (0, a2), (0, i25), (0, i24), (0, i25)]) zr_196_104 (Nat.le_of_ble_eq_true rfl) rfl ?_
                              refine zw_7 zr_196_106 rfl ?_
                              obtain ⟨f49, ef49⟩ : ∃ v, m44 69 24 = v := ⟨_, rfl⟩
                              have bf49 := hIm44.fi (c := 69) (k := 24) rfl
                              rw [ef49] at bf49
                              refine zw_46i zr_196_107 ef49 rfl rfl rfl ?_
                              refine zw_10 (L' := [(2, 69), (0, a0), (0, a1), (0, a2), (0, i25), (0, f49), (0, i25)]) zr_196_110 (Nat.le_of_ble_eq_true rfl) rfl ?_
                              refine zw_15 (c := 1) (L' := [(2, 69), (0, a0), (0, a1), (0, a2), (0, i25), (0, f49), (0, (i25 + 1))]) zr_196_112 rfl (by decide) (by omega) rfl ?_
                              refine zw_42 zr_196_115 ?_
                              exact zw_less (L := [(2, 69), (0, a0), (0, a1), (0, a2), (0, i25), (0, f49), (0, (i25 + 1))]) ⟨Or.inr rfl, Or.inr rfl, Or.inr rfl, Or.inr rfl, Or.inr rfl, Or.inr rfl, Or.inr rfl, trivial⟩ (ihlp59_27 (i25) (f49) ((i25 + 1)) m44 hIm44 hFm44   (by omega) (by omega) (by omega) (by omega) (by omega) (by omega)  (by omega))
                            · intro h50
                              refine zw_7 zr_196_93 rfl ?_
                              obtain ⟨f51, ef51⟩ : ∃ v, m44 69 24 = v := ⟨_, rfl⟩
                              have bf51 := hIm44.fi (c := 69) (k := 24) rfl
                              rw [ef51] at bf51
                              refine zw_46i zr_196_94 ef51 rfl rfl rfl ?_
                              refine zw_4 zr_196_97 rfl ?_
                              refine zw_41_5 zr_196_99 ?_ ?_
                              · intro h52
                                refine zw_15 (c := 1) (L' := [(2, 69), (0, a0), (0, a1), (0, a2), (0, i23), (0, i24), (0, (i25 + 1))]) zr_196_112 rfl (by decide) (by omega) rfl ?_
                                refine zw_42 zr_196_115 ?_
                                exact zw_less (L := [(2, 69), (0, a0), (0, a1), (0, a2), (0, i23), (0, i24), (0, (i25 + 1))]) ⟨Or.inr rfl, Or.inr rfl, Or.inr rfl, Or.inr rfl, Or.inr rfl, Or.inr rfl, Or.inr rfl, trivial⟩ (ihlp59_27 (i23) (i24) ((i25 + 1)) m44 hIm44 hFm44   (by omega) (by omega) (by omega) (by omega) (by omega) (by omega)  (by omega))
                              · intro h53
                                refine zw_4 zr_196_102 rfl ?_
                                refine zw_10 (L' := [(2, 69), (0, a0), (0, a1), (0, a2), (0, i25), (0, i24), (0, i25)]) zr_196_104 (Nat.le_of_ble_eq_true rfl) rfl ?_
                                refine zw_7 zr_196_106 rfl ?_
                                refine zw_46i zr_196_107 ef51 rfl rfl rfl ?_
                                refine zw_10 (L' := [(2, 69), (0, a0), (0, a1), (0, a2), (0, i25), (0, f51), (0, i25)]) zr_196_110 (Nat.le_of_ble_eq_true rfl) rfl ?_
                                refine zw_15 (c := 1) (L' := [(2, 69), (0, a0), (0, a1), (0, a2), (0, i25), (0, f51), (0, (i25 + 1))]) zr_196_112 rfl (by decide) (by omega) rfl ?_
                                refine zw_42 zr_196_115 ?_
                                exact zw_less (L := [(2, 69), (0, a0), (0, a1), (0, a2), (0, i25), (0, f51), (0, (i25 + 1))]) ⟨Or.inr rfl, Or.inr rfl, Or.inr rfl, Or.inr rfl, Or.inr rfl, Or.inr rfl, Or.inr rfl, trivial⟩ (ihlp59_27 (i25) (f51) ((i25 + 1)) m44 hIm44 hFm44   (by omega) (by omega) (by omega) (by omega) (by omega) (by omega)  (by omega))
                  exact lp59_27 _ ((-1)) (0) (0) m0 hI0 hF0   (by omega) (by omega) (by omega) (by omega) (by omega) (by omega)  (Nat.lt_succ_self _)
                · intro h54
                  refine zw_7 zr_196_44 rfl ?_
                  refine zw_3 zr_196_45 rfl ?_
                  refine zw_C zr_196_46 (Or.inl rfl) zm_195 rfl rfl ⟨Nat.le_of_ble_eq_true rfl, Nat.le_of_ble_eq_true rfl, Nat.le_of_ble_eq_true rfl, rfl, by decide⟩ (by omega) (th_195 (d := d - 1) (by omega) hI0 (a0 := a0)   (F70 := m0 70)  rfl (by omega) ) ?_
                  rintro _ m55 ⟨r56, rfl, hr56a, hr56b, hIm55, gm55⟩
                  have hFm55 : zFr W_196 m0 m55 := hF0.trans gm55 rfl
                  show zW E (d) 196 49 [(2, 69), (0, a0), (0, a1), (0, a2), (9, 0), (9, 0), (9, 0)] [(0, r56)] m55 Q
                  refine zw_R zr_196_49 (by decide) zm_196 (v := (0, r56)) rfl ?_
                  rw [← hQ]; exact ⟨_, rfl, by omega, by omega, hIm55, hFm55⟩
              · intro h57
                refine zw_3 zr_196_24 rfl ?_
                refine zw_36 zr_196_25 ?_
                refine zw_push zr_196_26 ?_
                refine zw_push zr_196_27 ?_
                refine zw_C zr_196_30 (Or.inr rfl) zm_140 rfl rfl ⟨Nat.le_of_ble_eq_true rfl, Nat.le_of_ble_eq_true rfl, Nat.le_of_ble_eq_true rfl, rfl, by decide⟩ (by omega) (P := (fun v m' => zW E (d) 196 33 [(2, 69), (0, a0), (0, a1), (0, a2), (9, 0), (9, 0), (9, 0)] (if v.1 = 9 then [] else v :: []) m' Q)) ?_ (fun _ _ h => h)
                generalize hQ1 : (fun v m' => zW E (d) 196 33 [(2, 69), (0, a0), (0, a1), (0, a2), (9, 0), (9, 0), (9, 0)] (if v.1 = 9 then [] else v :: []) m' Q) = Q1
                show zW E (d - 1) 140 0 [(1, a2), (9, 0), (1, 1), (9, 0), (1, 9), (9, 0)] [] m0 Q1
                refine zw_5 zr_140_0 rfl ?_
                refine zw_5 zr_140_1 rfl ?_
                refine zw_39_0 zr_140_2 zr_140_3 ?_ ?_
                · intro h58
                  refine zw_push zr_140_17 ?_
                  refine zw_R zr_140_18 (by decide) zm_140 (v := (0, 0)) (zRetB (by omega)) ?_
                  rw [← hQ1]
                  show zW E (d) 196 33 [(2, 69), (0, a0), (0, a1), (0, a2), (9, 0), (9, 0), (9, 0)] [(0, 0)] m0 Q
                  refine zw_40_4 zr_196_33 ?_ ?_
                  · intro h59; omega
                  · intro h60
                    refine zw_push zr_196_36 ?_
                    refine zw_R zr_196_38 (by decide) zm_196 (v := (0, (-2))) rfl ?_
                    rw [← hQ]; exact ⟨_, rfl, by omega, by omega, hI0, hF0⟩
                · intro h61
                  refine zw_5 zr_140_6 rfl ?_
                  refine zw_6 zr_140_7 rfl ?_
                  refine zw_39_2 zr_140_9 zr_140_10 ?_ ?_
                  · intro h62
                    refine zw_push zr_140_17 ?_
                    refine zw_R zr_140_18 (by decide) zm_140 (v := (0, 0)) (zRetB (by omega)) ?_
                    rw [← hQ1]
                    show zW E (d) 196 33 [(2, 69), (0, a0), (0, a1), (0, a2), (9, 0), (9, 0), (9, 0)] [(0, 0)] m0 Q
                    refine zw_40_4 zr_196_33 ?_ ?_
                    · intro h63; omega
                    · intro h64
                      refine zw_push zr_196_36 ?_
                      refine zw_R zr_196_38 (by decide) zm_196 (v := (0, (-2))) rfl ?_
                      rw [← hQ]; exact ⟨_, rfl, by omega, by omega, hI0, hF0⟩
                  · intro h65
                    refine zw_push zr_140_13 ?_
                    refine zw_42 zr_140_14 ?_
                    refine zw_R zr_140_18 (by decide) zm_140 (v := (0, 1)) (zRetB (by omega)) ?_
                    rw [← hQ1]
                    show zW E (d) 196 33 [(2, 69), (0, a0), (0, a1), (0, a2), (9, 0), (9, 0), (9, 0)] [(0, 1)] m0 Q
                    refine zw_40_4 zr_196_33 ?_ ?_
                    · intro h66
                      refine zw_3 zr_196_39 rfl ?_
                      refine zw_push zr_196_40 ?_
                      refine zw_41_4 zr_196_41 ?_ ?_
                      · intro h67
                        refine zw_push zr_196_50 ?_
                        refine zw_10 (L' := [(2, 69), (0, a0), (0, a1), (0, a2), (0, (-1)), (9, 0), (9, 0)]) zr_196_51 (Nat.le_of_ble_eq_true rfl) rfl ?_
                        refine zw_push zr_196_53 ?_
                        refine zw_10 (L' := [(2, 69), (0, a0), (0, a1), (0, a2), (0, (-1)), (0, 0), (9, 0)]) zr_196_54 (Nat.le_of_ble_eq_true rfl) rfl ?_
                        refine zw_push zr_196_56 ?_
                        refine zw_10 (L' := [(2, 69), (0, a0), (0, a1), (0, a2), (0, (-1)), (0, 0), (0, 0)]) zr_196_57 (Nat.le_of_ble_eq_true rfl) rfl ?_
                        have lp59_72 : ∀ (nlp59_72 : Nat) (i68 i69 i70 : Int) (m71 : zM), zInv m71 → zFr W_196 m0 m71 → (-1) ≤ i68 → i68 ≤ 9 → (-2147483648) ≤ i69 → i69 ≤ 2147483647 → 0 ≤ i70 → i70 ≤ 10 → (10 - i70).toNat < nlp59_72 → zW E (d) 196 59 [(2, 69), (0, a0), (0, a1), (0, a2), (0, i68), (0, i69), (0, i70)] [] m71 Q := by
                          intro nlp59_72
                          induction nlp59_72 with
                          | zero =>
                            intros
                            exact absurd (by assumption : _ < 0) (Nat.not_lt_zero _)
                          | succ nlp59_72 ihlp59_72 =>
                            intro i68 i69 i70 m71 hIm71 hFm71 li68 ui68 li69 ui69 li70 ui70 hmlp59_72
                            refine zw_4 zr_196_59 rfl ?_
                            refine zw_7 zr_196_61 rfl ?_
                            refine zw_C zr_196_62 (Or.inl rfl) zm_141 rfl rfl ⟨Nat.le_of_ble_eq_true rfl, Nat.le_of_ble_eq_true rfl, Nat.le_of_ble_eq_true rfl, rfl, by decide⟩ (by omega) (P := (fun v m' => zW E (d) 196 65 [(2, 69), (0, a0), (0, a1), (0, a2), (0, i68), (0, i69), (0, i70)] (if v.1 = 9 then [(0, i70)] else v :: [(0, i70)]) m' Q)) ?_ (fun _ _ h => h)
                            generalize hQ1 : (fun v m' => zW E (d) 196 65 [(2, 69), (0, a0), (0, a1), (0, a2), (0, i68), (0, i69), (0, i70)] (if v.1 = 9 then [(0, i70)] else v :: [(0, i70)]) m' Q) = Q1
                            show zW E (d - 1) 141 0 [(2, 69)] [] m71 Q1
                            refine zw_7 zr_141_0 rfl ?_
                            refine zw_46r (s := 70) zr_141_1 rfl rfl rfl rfl ?_
                            refine zw_push zr_141_4 ?_
                            obtain ⟨f74, ef74⟩ : ∃ v, m71 70 822 = v := ⟨_, rfl⟩
                            have bf74 : 0 ≤ m71 70 822 ∧ m71 70 822 ≤ 10 := ib_70_players hIm71 (by omega)
                            rw [ef74] at bf74
                            refine zw_48k (c := 70) (len := 826) zr_141_7 rfl rfl (by omega) (by omega) (show (822 : Int).toNat = 822 by omega) ef74 ?_
                            refine zw_R zr_141_8 (by decide) zm_141 (v := (0, f74)) rfl ?_
                            rw [← hQ1]
                            show zW E (d) 196 65 [(2, 69), (0, a0), (0, a1), (0, a2), (0, i68), (0, i69), (0, i70)] [(0, f74), (0, i70)] m71 Q
                            refine zw_41_3 zr_196_65 ?_ ?_
                            · intro h75
                              refine zw_4 zr_196_118 rfl ?_
                              refine zw_R zr_196_120 (by decide) zm_196 (v := (0, i68)) rfl ?_
                              rw [← hQ]; exact ⟨_, rfl, by omega, by omega, hIm71, hFm71⟩
                            · intro h76
                              refine zw_7 zr_196_68 rfl ?_
                              refine zw_3 zr_196_69 rfl ?_
                              refine zw_4 zr_196_70 rfl ?_
                              refine zw_3 zr_196_72 rfl ?_
                              refine zw_40_4 zr_196_73 ?_ ?_
                              · intro h77
                                refine zw_3 zr_196_80 rfl ?_
                                refine zw_C zr_196_81 (Or.inl rfl) zm_194 rfl rfl ⟨Nat.le_of_ble_eq_true rfl, Nat.le_of_ble_eq_true rfl, Nat.le_of_ble_eq_true rfl, rfl, by decide⟩ (by omega) (th_194 (d := d - 1) (by omega) hIm71 (a0 := a0) (a1 := i70) (a2 := a2)      (by omega) (by omega) (by omega) ) ?_
                                rintro _ m78 ⟨r79, rfl, hr79a, hr79b, hIm78, gm78⟩
                                have hFm78 : zFr W_196 m0 m78 := hFm71.trans gm78 rfl
                                have km78_70_822 : m78 70 822 = f74 := (gm78 70 822 rfl).trans ef74
                                show zW E (d) 196 84 [(2, 69), (0, a0), (0, a1), (0, a2), (0, i68), (0, i69), (0, i70)] [(0, r79)] m78 Q
                                refine zw_40_1 zr_196_84 ?_ ?_
                                · intro h80
                                  refine zw_15 (c := 1) (L' := [(2, 69), (0, a0), (0, a1), (0, a2), (0, i68), (0, i69), (0, (i70 + 1))]) zr_196_112 rfl (by decide) (by omega) rfl ?_
                                  refine zw_42 zr_196_115 ?_
                                  exact zw_less (L := [(2, 69), (0, a0), (0, a1), (0, a2), (0, i68), (0, i69), (0, (i70 + 1))]) ⟨Or.inr rfl, Or.inr rfl, Or.inr rfl, Or.inr rfl, Or.inr rfl, Or.inr rfl, Or.inr rfl, trivial⟩ (ihlp59_72 (i68) (i69) ((i70 + 1)) m78 hIm78 hFm78   (by omega) (by omega) (by omega) (by omega) (by omega) (by omega)  (by omega))
                                · intro h81
                                  refine zw_4 zr_196_87 rfl ?_
                                  refine zw_push zr_196_89 ?_
                                  refine zw_41_1 zr_196_90 ?_ ?_
                                  · intro h82
                                    refine zw_4 zr_196_102 rfl ?_
                                    refine zw_10 (L' := [(2, 69), (0, a0), (0, a1), (0, a2), (0, i70), (0, i69), (0, i70)]) zr_196_104 (Nat.le_of_ble_eq_true rfl) rfl ?_
                                    refine zw_7 zr_196_106 rfl ?_
                                    obtain ⟨f83, ef83⟩ : ∃ v, m78 69 24 = v := ⟨_, rfl⟩
                                    have bf83 := hIm78.fi (c := 69) (k := 24) rfl
                                    rw [ef83] at bf83
                                    refine zw_46i zr_196_107 ef83 rfl rfl rfl ?_
                                    refine zw_10 (L' := [(2, 69), (0, a0), (0, a1), (0, a2), (0, i70), (0, f83), (0, i70)]) zr_196_110 (Nat.le_of_ble_eq_true rfl) rfl ?_
                                    refine zw_15 (c := 1) (L' := [(2, 69), (0, a0), (0, a1), (0, a2), (0, i70), (0, f83), (0, (i70 + 1))]) zr_196_112 rfl (by decide) (by omega) rfl ?_
                                    refine zw_42 zr_196_115 ?_
                                    exact zw_less (L := [(2, 69), (0, a0), (0, a1), (0, a2), (0, i70), (0, f83), (0, (i70 + 1))]) ⟨Or.inr rfl, Or.inr rfl, Or.inr rfl, Or.inr rfl, Or.inr rfl, Or.inr rfl, Or.inr rfl, trivial⟩ (ihlp59_72 (i70) (f83) ((i70 + 1)) m78 hIm78 hFm78   (by omega) (by omega) (by omega) (by omega) (by omega) (by omega)  (by omega))
                                  · intro h84
                                    refine zw_7 zr_196_93 rfl ?_
                                    obtain ⟨f85, ef85⟩ : ∃ v, m78 69 24 = v := ⟨_, rfl⟩
                                    have bf85 := hIm78.fi (c := 69) (k := 24) rfl
                                    rw [ef85] at bf85
                                    refine zw_46i zr_196_94 ef85 rfl rfl rfl ?_
                                    refine zw_4 zr_196_97 rfl ?_
                                    refine zw_41_5 zr_196_99 ?_ ?_
                                    · intro h86
                                      refine zw_15 (c := 1) (L' := [(2, 69), (0, a0), (0, a1), (0, a2), (0, i68), (0, i69), (0, (i70 + 1))]) zr_196_112 rfl (by decide) (by omega) rfl ?_
                                      refine zw_42 zr_196_115 ?_
                                      exact zw_less (L := [(2, 69), (0, a0), (0, a1), (0, a2), (0, i68), (0, i69), (0, (i70 + 1))]) ⟨Or.inr rfl, Or.inr rfl, Or.inr rfl, Or.inr rfl, Or.inr rfl, Or.inr rfl, Or.inr rfl, trivial⟩ (ihlp59_72 (i68) (i69) ((i70 + 1)) m78 hIm78 hFm78   (by omega) (by omega) (by omega) (by omega) (by omega) (by omega)  (by omega))
                                    · intro h87
                                      refine zw_4 zr_196_102 rfl ?_
                                      refine zw_10 (L' := [(2, 69), (0, a0), (0, a1), (0, a2), (0, i70), (0, i69), (0, i70)]) zr_196_104 (Nat.le_of_ble_eq_true rfl) rfl ?_
                                      refine zw_7 zr_196_106 rfl ?_
                                      refine zw_46i zr_196_107 ef85 rfl rfl rfl ?_
                                      refine zw_10 (L' := [(2, 69), (0, a0), (0, a1), (0, a2), (0, i70), (0, f85), (0, i70)]) zr_196_110 (Nat.le_of_ble_eq_true rfl) rfl ?_
                                      refine zw_15 (c := 1) (L' := [(2, 69), (0, a0), (0, a1), (0, a2), (0, i70), (0, f85), (0, (i70 + 1))]) zr_196_112 rfl (by decide) (by omega) rfl ?_
                                      refine zw_42 zr_196_115 ?_
                                      exact zw_less (L := [(2, 69), (0, a0), (0, a1), (0, a2), (0, i70), (0, f85), (0, (i70 + 1))]) ⟨Or.inr rfl, Or.inr rfl, Or.inr rfl, Or.inr rfl, Or.inr rfl, Or.inr rfl, Or.inr rfl, trivial⟩ (ihlp59_72 (i70) (f85) ((i70 + 1)) m78 hIm78 hFm78   (by omega) (by omega) (by omega) (by omega) (by omega) (by omega)  (by omega))
                              · intro h88; omega
                        exact lp59_72 _ ((-1)) (0) (0) m0 hI0 hF0   (by omega) (by omega) (by omega) (by omega) (by omega) (by omega)  (Nat.lt_succ_self _)
                      · intro h89; omega
                    · intro h90; omega

abbrev W_4_65 : List (Nat × Nat) := [(65, 1000)]
set_option maxHeartbeats 8000000 in
theorem th_4_65 {E : zE} {d : Nat} {m0 : zM} {a0 : Int} (hd : 1 ≤ d) (hI0 : zInv m0) (ha0 : 0 ≤ a0 ∧ a0 ≤ 0) : zC E d 4 [(2, 65), (0, a0)] m0 (fun v m' => v = (9, 0) ∧ zInv m' ∧ zFr W_4_65 m0 m') := by
  have hF0 : zFr W_4_65 m0 m0 := zFr.rfl
  generalize hQ : (fun (v : zV) (m' : zM) => v = (9, 0) ∧ zInv m' ∧ zFr W_4_65 m0 m') = Q
  show zW E d 4 0 [(2, 65), (0, a0), (9, 0), (9, 0)] [] m0 Q
  refine zw_push zr_4_0 ?_
  refine zw_9 (L' := [(2, 65), (0, a0), (0, 0), (9, 0)]) zr_4_1 (Nat.le_of_ble_eq_true rfl) rfl ?_
  refine zw_7 zr_4_2 rfl ?_
  refine zw_101 (c := 65) (len := 100) zr_4_3 rfl rfl (by decide) ?_
  refine zw_9 (L' := [(2, 65), (0, a0), (0, 0), (0, 100)]) zr_4_4 (Nat.le_of_ble_eq_true rfl) rfl ?_
  have lp5_3 : ∀ (nlp5_3 : Nat) (i1 : Int) (m2 : zM), zInv m2 → zFr W_4_65 m0 m2 → 0 ≤ i1 → i1 ≤ 100 → (100 - i1).toNat < nlp5_3 → zW E (d) 4 5 [(2, 65), (0, a0), (0, i1), (0, 100)] [] m2 Q := by
    intro nlp5_3
    induction nlp5_3 with
    | zero =>
      intros
      exact absurd (by assumption : _ < 0) (Nat.not_lt_zero _)
    | succ nlp5_3 ihlp5_3 =>
      intro i1 m2 hIm2 hFm2 li1 ui1 hmlp5_3
      refine zw_3 zr_4_5 rfl ?_
      refine zw_3 zr_4_6 rfl ?_
      refine zw_41_3 zr_4_7 ?_ ?_
      · intro h5
        refine zw_R zr_4_20 (by decide) zm_4 (v := (9, 0)) rfl ?_
        rw [← hQ]; exact ⟨rfl, hIm2, hFm2⟩
      · intro h6
        refine zw_7 zr_4_10 rfl ?_
        refine zw_3 zr_4_11 rfl ?_
        refine zw_3 zr_4_12 rfl ?_
        refine zw_49 (c := 65) (len := 100) zr_4_13 rfl rfl (by omega) (by omega) ?_
        intro m7 em7
        have hIm7 : zInv m7 := by rw [em7]; exact hIm2.any (by omega) rfl (by decide) (by decide)
        have hFm7 : zFr W_4_65 m0 m7 := by rw [em7]; exact hFm2.any rfl
        clear em7
        refine zw_15 (c := 1) (L' := [(2, 65), (0, a0), (0, (i1 + 1)), (0, 100)]) zr_4_14 rfl (by decide) (by omega) rfl ?_
        refine zw_42 zr_4_17 ?_
        exact zw_less (L := [(2, 65), (0, a0), (0, (i1 + 1)), (0, 100)]) ⟨Or.inr rfl, Or.inr rfl, Or.inr rfl, Or.inr rfl, trivial⟩ (ihlp5_3 ((i1 + 1)) m7 hIm7 hFm7   (by omega) (by omega)  (by omega))
  exact lp5_3 _ (0) m0 hI0 hF0   (by omega) (by omega)  (Nat.lt_succ_self _)

abbrev W_90 : List (Nat × Nat) := [(65, 1000)]
set_option maxHeartbeats 8000000 in
theorem th_90 {E : zE} {d : Nat} {m0 : zM} (hd : 2 ≤ d) (hI0 : zInv m0) : zC E d 90 [(2, 63)] m0 (fun v m' => v = (9, 0) ∧ zInv m' ∧ zFr W_90 m0 m') := by
  have hF0 : zFr W_90 m0 m0 := zFr.rfl
  generalize hQ : (fun (v : zV) (m' : zM) => v = (9, 0) ∧ zInv m' ∧ zFr W_90 m0 m') = Q
  show zW E d 90 0 [(2, 63), (9, 0), (9, 0), (9, 0)] [] m0 Q
  refine zw_7 zr_90_0 rfl ?_
  refine zw_46r (s := 65) zr_90_1 rfl rfl rfl rfl ?_
  refine zw_push zr_90_4 ?_
  refine zw_C zr_90_5 (Or.inr rfl) zm_4 rfl rfl ⟨Nat.le_of_ble_eq_true rfl, Nat.le_of_ble_eq_true rfl, Nat.le_of_ble_eq_true rfl, rfl, by decide⟩ (by omega) (th_4_65 (d := d - 1) (by omega) hI0 (a0 := 0)      (by omega) ) ?_
  rintro _ m1 ⟨rfl, hIm1, gm1⟩
  have hFm1 : zFr W_90 m0 m1 := hF0.trans gm1 rfl
  show zW E (d) 90 8 [(2, 63), (9, 0), (9, 0), (9, 0)] [] m1 Q
  refine zw_push zr_90_8 ?_
  refine zw_9 (L' := [(2, 63), (0, 0), (9, 0), (9, 0)]) zr_90_9 (Nat.le_of_ble_eq_true rfl) rfl ?_
  have lp10_4 : ∀ (nlp10_4 : Nat) (i2 : Int) (m3 : zM), zInv m3 → zFr W_90 m0 m3 → 0 ≤ i2 → i2 ≤ 60 → (60 - i2).toNat < nlp10_4 → zW E (d) 90 10 [(2, 63), (0, i2), (9, 0), (9, 0)] [] m3 Q := by
    intro nlp10_4
    induction nlp10_4 with
    | zero =>
      intros
      exact absurd (by assumption : _ < 0) (Nat.not_lt_zero _)
    | succ nlp10_4 ihlp10_4 =>
      intro i2 m3 hIm3 hFm3 li2 ui2 hmlp10_4
      refine zw_3 zr_90_10 rfl ?_
      refine zw_7 zr_90_11 rfl ?_
      refine zw_46r (s := 1) zr_90_12 rfl rfl rfl rfl ?_
      obtain ⟨f6, ef6⟩ : ∃ v, m3 1 1 = v := ⟨_, rfl⟩
      have bf6 := ib_1_1 hIm3
      rw [ef6] at bf6
      refine zw_46i zr_90_15 ef6 rfl rfl rfl ?_
      refine zw_41_3 zr_90_18 ?_ ?_
      · intro h7
        refine zw_R zr_90_108 (by decide) zm_90 (v := (9, 0)) rfl ?_
        rw [← hQ]; exact ⟨rfl, hIm3, hFm3⟩
      · intro h8
        refine zw_7 zr_90_21 rfl ?_
        refine zw_46r (s := 1) zr_90_22 rfl rfl rfl rfl ?_
        refine zw_46r (s := 6) zr_90_25 rfl rfl rfl rfl ?_
        refine zw_3 zr_90_28 rfl ?_
        refine zw_48 (c := 6) (len := 60) zr_90_29 rfl rfl (by omega) (by omega) ?_
        intro x9 ex9
        have bx9 := ib_6 hIm3 (k := (i2).toNat) (by omega)
        rw [← ex9] at bx9
        clear ex9
        refine zw_9 (L' := [(2, 63), (0, i2), (0, x9), (9, 0)]) zr_90_30 (Nat.le_of_ble_eq_true rfl) rfl ?_
        refine zw_7 zr_90_31 rfl ?_
        refine zw_46r (s := 1) zr_90_32 rfl rfl rfl rfl ?_
        refine zw_46r (s := 7) zr_90_35 rfl rfl rfl rfl ?_
        refine zw_3 zr_90_38 rfl ?_
        refine zw_48 (c := 7) (len := 60) zr_90_39 rfl rfl (by omega) (by omega) ?_
        intro x10 ex10
        have bx10 := ib_7 hIm3 (k := (i2).toNat) (by omega)
        rw [← ex10] at bx10
        clear ex10
        refine zw_9 (L' := [(2, 63), (0, i2), (0, x9), (0, x10)]) zr_90_40 (Nat.le_of_ble_eq_true rfl) rfl ?_
        refine zw_7 zr_90_41 rfl ?_
        refine zw_46r (s := 1) zr_90_42 rfl rfl rfl rfl ?_
        refine zw_3 zr_90_45 rfl ?_
        refine zw_C zr_90_46 (Or.inl rfl) zm_18 rfl rfl ⟨Nat.le_of_ble_eq_true rfl, Nat.le_of_ble_eq_true rfl, Nat.le_of_ble_eq_true rfl, rfl, by decide⟩ (by omega) (P := (fun v m' => zW E (d) 90 49 [(2, 63), (0, i2), (0, x9), (0, x10)] (if v.1 = 9 then [] else v :: []) m' Q)) ?_ (fun _ _ h => h)
        generalize hQ1 : (fun v m' => zW E (d) 90 49 [(2, 63), (0, i2), (0, x9), (0, x10)] (if v.1 = 9 then [] else v :: []) m' Q) = Q1
        show zW E (d - 1) 18 0 [(2, 1), (0, i2)] [] m3 Q1
        refine zw_7 zr_18_0 rfl ?_
        obtain ⟨f11, ef11⟩ : ∃ v, m3 1 2 = v := ⟨_, rfl⟩
        have bf11 := ib_1_2 hIm3
        rw [ef11] at bf11
        refine zw_46l zr_18_1 ef11 rfl rfl rfl ?_
        refine zw_3 zr_18_4 rfl ?_
        refine zw_34p zr_18_5 (by omega) (by omega) ?_
        intro x12 hx12c hx12a hx12b
        refine zw_push zr_18_6 ?_
        refine zw_30o zr_18_7 (by omega) ?_
        refine zw_push zr_18_8 ?_
        refine zw_39_1 zr_18_9 zr_18_10 ?_ ?_
        · intro h13
          refine zw_push zr_18_17 ?_
          refine zw_R zr_18_18 (by decide) zm_18 (v := (0, 0)) (zRetB (by omega)) ?_
          rw [← hQ1]
          show zW E (d) 90 49 [(2, 63), (0, i2), (0, x9), (0, x10)] [(0, 0)] m3 Q
          refine zw_40_4 zr_90_49 ?_ ?_
          · intro h14; omega
          · intro h15
            refine zw_7 zr_90_52 rfl ?_
            refine zw_46r (s := 1) zr_90_53 rfl rfl rfl rfl ?_
            refine zw_46r (s := 8) zr_90_56 rfl rfl rfl rfl ?_
            refine zw_3 zr_90_59 rfl ?_
            refine zw_48 (c := 8) (len := 60) zr_90_60 rfl rfl (by omega) (by omega) ?_
            intro x16 ex16
            have bx16 := ib_8 hIm3 (k := (i2).toNat) (by omega)
            rw [← ex16] at bx16
            refine zw_push zr_90_61 ?_
            refine zw_41_1 zr_90_62 ?_ ?_
            · intro h17
              refine zw_15 (c := 1) (L' := [(2, 63), (0, (i2 + 1)), (0, x9), (0, x10)]) zr_90_102 rfl (by decide) (by omega) rfl ?_
              refine zw_42 zr_90_105 ?_
              exact zw_less (L := [(2, 63), (0, (i2 + 1)), (9, 0), (9, 0)]) ⟨Or.inr rfl, Or.inr rfl, Or.inl rfl, Or.inl rfl, trivial⟩ (ihlp10_4 ((i2 + 1)) m3 hIm3 hFm3   (by omega) (by omega)  (by omega))
            · intro h18
              refine zw_7 zr_90_65 rfl ?_
              refine zw_46r (s := 65) zr_90_66 rfl rfl rfl rfl ?_
              refine zw_7 zr_90_69 rfl ?_
              refine zw_46r (s := 1) zr_90_70 rfl rfl rfl rfl ?_
              refine zw_46r (s := 8) zr_90_73 rfl rfl rfl rfl ?_
              refine zw_3 zr_90_76 rfl ?_
              refine zw_48k (c := 8) (len := 60) zr_90_77 rfl rfl (by omega) (by omega) rfl ex16.symm ?_
              refine zw_push zr_90_78 ?_
              refine zw_41_4 zr_90_79 ?_ ?_
              · intro h19
                refine zw_3 zr_90_91 rfl ?_
                refine zw_push zr_90_92 ?_
                refine zw_18 zr_90_94 (by omega) ?_
                refine zw_3 zr_90_95 rfl ?_
                refine zw_16 zr_90_96 (by omega) ?_
                refine zw_45 zr_90_97 ⟨rfl, rfl⟩ ?_
                refine zw_48 (c := 65) (len := 100) zr_90_98 rfl rfl (by omega) (by omega) ?_
                intro x20 ex20
                have bx20 := hIm3.ra (c := 65) (len := 100) (k := (((x10 * 10) + x9)).toNat) rfl (by omega)
                rw [← ex20] at bx20
                clear ex20
                refine zw_push zr_90_99 ?_
                refine zw_16h zr_90_100 ?_
                intro x21 hx21a hx21b
                refine zw_49 (c := 65) (len := 100) zr_90_101 rfl rfl (by omega) (by omega) ?_
                intro m22 em22
                have hIm22 : zInv m22 := by rw [em22]; exact hIm3.any (by omega) rfl (by decide) (by decide)
                have hFm22 : zFr W_90 m0 m22 := by rw [em22]; exact hFm3.any rfl
                have km22_1_1 : m22 1 1 = f6 := by rw [em22, zUp_ne (by omega)]; exact ef6
                have km22_1_2 : m22 1 2 = f11 := by rw [em22, zUp_ne (by omega)]; exact ef11
                clear em22
                refine zw_15 (c := 1) (L' := [(2, 63), (0, (i2 + 1)), (0, x9), (0, x10)]) zr_90_102 rfl (by decide) (by omega) rfl ?_
                refine zw_42 zr_90_105 ?_
                exact zw_less (L := [(2, 63), (0, (i2 + 1)), (9, 0), (9, 0)]) ⟨Or.inr rfl, Or.inr rfl, Or.inl rfl, Or.inl rfl, trivial⟩ (ihlp10_4 ((i2 + 1)) m22 hIm22 hFm22   (by omega) (by omega)  (by omega))
              · intro h23
                refine zw_3 zr_90_82 rfl ?_
                refine zw_push zr_90_83 ?_
                refine zw_18 zr_90_85 (by omega) ?_
                refine zw_3 zr_90_86 rfl ?_
                refine zw_16 zr_90_87 (by omega) ?_
                refine zw_42 zr_90_88 ?_
                refine zw_45 zr_90_97 ⟨rfl, rfl⟩ ?_
                refine zw_48 (c := 65) (len := 100) zr_90_98 rfl rfl (by omega) (by omega) ?_
                intro x24 ex24
                have bx24 := hIm3.ra (c := 65) (len := 100) (k := (((x9 * 10) + x10)).toNat) rfl (by omega)
                rw [← ex24] at bx24
                clear ex24
                refine zw_push zr_90_99 ?_
                refine zw_16h zr_90_100 ?_
                intro x25 hx25a hx25b
                refine zw_49 (c := 65) (len := 100) zr_90_101 rfl rfl (by omega) (by omega) ?_
                intro m26 em26
                have hIm26 : zInv m26 := by rw [em26]; exact hIm3.any (by omega) rfl (by decide) (by decide)
                have hFm26 : zFr W_90 m0 m26 := by rw [em26]; exact hFm3.any rfl
                have km26_1_1 : m26 1 1 = f6 := by rw [em26, zUp_ne (by omega)]; exact ef6
                have km26_1_2 : m26 1 2 = f11 := by rw [em26, zUp_ne (by omega)]; exact ef11
                clear em26
                refine zw_15 (c := 1) (L' := [(2, 63), (0, (i2 + 1)), (0, x9), (0, x10)]) zr_90_102 rfl (by decide) (by omega) rfl ?_
                refine zw_42 zr_90_105 ?_
                exact zw_less (L := [(2, 63), (0, (i2 + 1)), (9, 0), (9, 0)]) ⟨Or.inr rfl, Or.inr rfl, Or.inl rfl, Or.inl rfl, trivial⟩ (ihlp10_4 ((i2 + 1)) m26 hIm26 hFm26   (by omega) (by omega)  (by omega))
        · intro h27
          refine zw_push zr_18_13 ?_
          refine zw_42 zr_18_14 ?_
          refine zw_R zr_18_18 (by decide) zm_18 (v := (0, 1)) (zRetB (by omega)) ?_
          rw [← hQ1]
          show zW E (d) 90 49 [(2, 63), (0, i2), (0, x9), (0, x10)] [(0, 1)] m3 Q
          refine zw_40_4 zr_90_49 ?_ ?_
          · intro h28
            refine zw_15 (c := 1) (L' := [(2, 63), (0, (i2 + 1)), (0, x9), (0, x10)]) zr_90_102 rfl (by decide) (by omega) rfl ?_
            refine zw_42 zr_90_105 ?_
            exact zw_less (L := [(2, 63), (0, (i2 + 1)), (9, 0), (9, 0)]) ⟨Or.inr rfl, Or.inr rfl, Or.inl rfl, Or.inl rfl, trivial⟩ (ihlp10_4 ((i2 + 1)) m3 hIm3 hFm3   (by omega) (by omega)  (by omega))
          · intro h29; omega
  exact lp10_4 _ (0) m1 hIm1 hFm1   (by omega) (by omega)  (Nat.lt_succ_self _)

set_option maxHeartbeats 8000000 in
theorem th_92 {E : zE} {d : Nat} {m0 : zM} {a0 : Int} {a1 : Int} {a2 : Int} (hd : 2 ≤ d) (hI0 : zInv m0) (ha0 : 0 ≤ a0 ∧ a0 ≤ 9) (ha1 : 1 ≤ a1 ∧ a1 ≤ 9) (ha2 : 1 ≤ a2 ∧ a2 ≤ 9) : zC E d 92 [(2, 63), (0, a0), (0, a1), (0, a2)] m0 (fun v m' => ∃ r : Int, v = (0, r) ∧ 0 ≤ r ∧ r ≤ 1 ∧ m0 = m') := by
  generalize hQ : (fun (v : zV) (m' : zM) => ∃ r : Int, v = (0, r) ∧ 0 ≤ r ∧ r ≤ 1 ∧ m0 = m') = Q
  show zW E d 92 0 [(2, 63), (0, a0), (0, a1), (0, a2), (9, 0)] [] m0 Q
  refine zw_7 zr_92_0 rfl ?_
  refine zw_3 zr_92_1 rfl ?_
  refine zw_3 zr_92_2 rfl ?_
  refine zw_C zr_92_3 (Or.inl rfl) zm_91 rfl rfl ⟨Nat.le_of_ble_eq_true rfl, Nat.le_of_ble_eq_true rfl, Nat.le_of_ble_eq_true rfl, rfl, by decide⟩ (by omega) (P := (fun v m' => zW E (d) 92 6 [(2, 63), (0, a0), (0, a1), (0, a2), (9, 0)] (if v.1 = 9 then [] else v :: []) m' Q)) ?_ (fun _ _ h => h)
  generalize hQ1 : (fun v m' => zW E (d) 92 6 [(2, 63), (0, a0), (0, a1), (0, a2), (9, 0)] (if v.1 = 9 then [] else v :: []) m' Q) = Q1
  show zW E (d - 1) 91 0 [(2, 63), (0, a0), (0, a1)] [] m0 Q1
  refine zw_7 zr_91_0 rfl ?_
  refine zw_46r (s := 65) zr_91_1 rfl rfl rfl rfl ?_
  refine zw_3 zr_91_4 rfl ?_
  refine zw_push zr_91_5 ?_
  refine zw_18 zr_91_7 (by omega) ?_
  refine zw_3 zr_91_8 rfl ?_
  refine zw_16 zr_91_9 (by omega) ?_
  refine zw_48 (c := 65) (len := 100) zr_91_10 rfl rfl (by omega) (by omega) ?_
  intro x1 ex1
  have bx1 := hI0.ra (c := 65) (len := 100) (k := (((a0 * 10) + a1)).toNat) rfl (by omega)
  rw [← ex1] at bx1
  clear ex1
  refine zw_R zr_91_11 (by decide) zm_91 (v := (0, x1)) rfl ?_
  rw [← hQ1]
  show zW E (d) 92 6 [(2, 63), (0, a0), (0, a1), (0, a2), (9, 0)] [(0, x1)] m0 Q
  refine zw_40_5 zr_92_6 ?_ ?_
  · intro h2
    refine zw_push zr_92_31 ?_
    refine zw_10 (L' := [(2, 63), (0, a0), (0, a1), (0, a2), (0, 0)]) zr_92_32 (Nat.le_of_ble_eq_true rfl) rfl ?_
    refine zw_4 zr_92_34 rfl ?_
    refine zw_40_1 zr_92_36 ?_ ?_
    · intro h3
      refine zw_push zr_92_43 ?_
      refine zw_R zr_92_44 (by decide) zm_92 (v := (0, 0)) rfl ?_
      rw [← hQ]; exact ⟨_, rfl, by omega, by omega, rfl⟩
    · intro h4; omega
  · intro h5
    refine zw_7 zr_92_9 rfl ?_
    refine zw_3 zr_92_10 rfl ?_
    refine zw_3 zr_92_11 rfl ?_
    refine zw_C zr_92_12 (Or.inl rfl) zm_91 rfl rfl ⟨Nat.le_of_ble_eq_true rfl, Nat.le_of_ble_eq_true rfl, Nat.le_of_ble_eq_true rfl, rfl, by decide⟩ (by omega) (P := (fun v m' => zW E (d) 92 15 [(2, 63), (0, a0), (0, a1), (0, a2), (9, 0)] (if v.1 = 9 then [] else v :: []) m' Q)) ?_ (fun _ _ h => h)
    generalize hQ1 : (fun v m' => zW E (d) 92 15 [(2, 63), (0, a0), (0, a1), (0, a2), (9, 0)] (if v.1 = 9 then [] else v :: []) m' Q) = Q1
    show zW E (d - 1) 91 0 [(2, 63), (0, a1), (0, a2)] [] m0 Q1
    refine zw_7 zr_91_0 rfl ?_
    refine zw_46r (s := 65) zr_91_1 rfl rfl rfl rfl ?_
    refine zw_3 zr_91_4 rfl ?_
    refine zw_push zr_91_5 ?_
    refine zw_18 zr_91_7 (by omega) ?_
    refine zw_3 zr_91_8 rfl ?_
    refine zw_16 zr_91_9 (by omega) ?_
    refine zw_48 (c := 65) (len := 100) zr_91_10 rfl rfl (by omega) (by omega) ?_
    intro x6 ex6
    have bx6 := hI0.ra (c := 65) (len := 100) (k := (((a1 * 10) + a2)).toNat) rfl (by omega)
    rw [← ex6] at bx6
    clear ex6
    refine zw_R zr_91_11 (by decide) zm_91 (v := (0, x6)) rfl ?_
    rw [← hQ1]
    show zW E (d) 92 15 [(2, 63), (0, a0), (0, a1), (0, a2), (9, 0)] [(0, x6)] m0 Q
    refine zw_40_5 zr_92_15 ?_ ?_
    · intro h7
      refine zw_push zr_92_31 ?_
      refine zw_10 (L' := [(2, 63), (0, a0), (0, a1), (0, a2), (0, 0)]) zr_92_32 (Nat.le_of_ble_eq_true rfl) rfl ?_
      refine zw_4 zr_92_34 rfl ?_
      refine zw_40_1 zr_92_36 ?_ ?_
      · intro h8
        refine zw_push zr_92_43 ?_
        refine zw_R zr_92_44 (by decide) zm_92 (v := (0, 0)) rfl ?_
        rw [← hQ]; exact ⟨_, rfl, by omega, by omega, rfl⟩
      · intro h9; omega
    · intro h10
      refine zw_7 zr_92_18 rfl ?_
      refine zw_3 zr_92_19 rfl ?_
      refine zw_3 zr_92_20 rfl ?_
      refine zw_C zr_92_21 (Or.inl rfl) zm_91 rfl rfl ⟨Nat.le_of_ble_eq_true rfl, Nat.le_of_ble_eq_true rfl, Nat.le_of_ble_eq_true rfl, rfl, by decide⟩ (by omega) (P := (fun v m' => zW E (d) 92 24 [(2, 63), (0, a0), (0, a1), (0, a2), (9, 0)] (if v.1 = 9 then [] else v :: []) m' Q)) ?_ (fun _ _ h => h)
      generalize hQ1 : (fun v m' => zW E (d) 92 24 [(2, 63), (0, a0), (0, a1), (0, a2), (9, 0)] (if v.1 = 9 then [] else v :: []) m' Q) = Q1
      show zW E (d - 1) 91 0 [(2, 63), (0, a2), (0, a0)] [] m0 Q1
      refine zw_7 zr_91_0 rfl ?_
      refine zw_46r (s := 65) zr_91_1 rfl rfl rfl rfl ?_
      refine zw_3 zr_91_4 rfl ?_
      refine zw_push zr_91_5 ?_
      refine zw_18 zr_91_7 (by omega) ?_
      refine zw_3 zr_91_8 rfl ?_
      refine zw_16 zr_91_9 (by omega) ?_
      refine zw_48 (c := 65) (len := 100) zr_91_10 rfl rfl (by omega) (by omega) ?_
      intro x11 ex11
      have bx11 := hI0.ra (c := 65) (len := 100) (k := (((a2 * 10) + a0)).toNat) rfl (by omega)
      rw [← ex11] at bx11
      clear ex11
      refine zw_R zr_91_11 (by decide) zm_91 (v := (0, x11)) rfl ?_
      rw [← hQ1]
      show zW E (d) 92 24 [(2, 63), (0, a0), (0, a1), (0, a2), (9, 0)] [(0, x11)] m0 Q
      refine zw_40_5 zr_92_24 ?_ ?_
      · intro h12
        refine zw_push zr_92_31 ?_
        refine zw_10 (L' := [(2, 63), (0, a0), (0, a1), (0, a2), (0, 0)]) zr_92_32 (Nat.le_of_ble_eq_true rfl) rfl ?_
        refine zw_4 zr_92_34 rfl ?_
        refine zw_40_1 zr_92_36 ?_ ?_
        · intro h13
          refine zw_push zr_92_43 ?_
          refine zw_R zr_92_44 (by decide) zm_92 (v := (0, 0)) rfl ?_
          rw [← hQ]; exact ⟨_, rfl, by omega, by omega, rfl⟩
        · intro h14; omega
      · intro h15
        refine zw_push zr_92_27 ?_
        refine zw_42 zr_92_28 ?_
        refine zw_10 (L' := [(2, 63), (0, a0), (0, a1), (0, a2), (0, 1)]) zr_92_32 (Nat.le_of_ble_eq_true rfl) rfl ?_
        refine zw_4 zr_92_34 rfl ?_
        refine zw_40_1 zr_92_36 ?_ ?_
        · intro h16; omega
        · intro h17
          refine zw_push zr_92_39 ?_
          refine zw_42 zr_92_40 ?_
          refine zw_R zr_92_44 (by decide) zm_92 (v := (0, 1)) rfl ?_
          rw [← hQ]; exact ⟨_, rfl, by omega, by omega, rfl⟩

abbrev W_93 : List (Nat × Nat) := [(65, 1000)]
set_option maxHeartbeats 8000000 in
theorem th_93 {E : zE} {d : Nat} {m0 : zM} (hd : 3 ≤ d) (hI0 : zInv m0) : zC E d 93 [(2, 63)] m0 (fun v m' => ∃ r : Int, v = (0, r) ∧ (-2147483648) ≤ r ∧ r ≤ 2147483647 ∧ zInv m' ∧ zFr W_93 m0 m') := by
  have hF0 : zFr W_93 m0 m0 := zFr.rfl
  generalize hQ : (fun (v : zV) (m' : zM) => ∃ r : Int, v = (0, r) ∧ (-2147483648) ≤ r ∧ r ≤ 2147483647 ∧ zInv m' ∧ zFr W_93 m0 m') = Q
  show zW E d 93 0 [(2, 63), (9, 0), (9, 0), (9, 0), (9, 0)] [] m0 Q
  refine zw_7 zr_93_0 rfl ?_
  refine zw_C zr_93_1 (Or.inl rfl) zm_90 rfl rfl ⟨Nat.le_of_ble_eq_true rfl, Nat.le_of_ble_eq_true rfl, Nat.le_of_ble_eq_true rfl, rfl, by decide⟩ (by omega) (th_90 (d := d - 1) (by omega) hI0        ) ?_
  rintro _ m1 ⟨rfl, hIm1, gm1⟩
  have hFm1 : zFr W_93 m0 m1 := hF0.trans gm1 rfl
  show zW E (d) 93 4 [(2, 63), (9, 0), (9, 0), (9, 0), (9, 0)] [] m1 Q
  refine zw_push zr_93_4 ?_
  refine zw_9 (L' := [(2, 63), (0, 0), (9, 0), (9, 0), (9, 0)]) zr_93_5 (Nat.le_of_ble_eq_true rfl) rfl ?_
  refine zw_push zr_93_6 ?_
  refine zw_9 (L' := [(2, 63), (0, 0), (0, 0), (9, 0), (9, 0)]) zr_93_7 (Nat.le_of_ble_eq_true rfl) rfl ?_
  have lp8_4 : ∀ (nlp8_4 : Nat) (i2 i3 : Int), (-2147483648) ≤ i2 → i2 ≤ 2147483647 → 0 ≤ i3 → i3 ≤ 10 → (10 - i3).toNat < nlp8_4 → zW E (d) 93 8 [(2, 63), (0, i2), (0, i3), (9, 0), (9, 0)] [] m1 Q := by
    intro nlp8_4
    induction nlp8_4 with
    | zero =>
      intros
      exact absurd (by assumption : _ < 0) (Nat.not_lt_zero _)
    | succ nlp8_4 ihlp8_4 =>
      intro i2 i3 li2 ui2 li3 ui3 hmlp8_4
      refine zw_3 zr_93_8 rfl ?_
      refine zw_7 zr_93_9 rfl ?_
      refine zw_46r (s := 1) zr_93_10 rfl rfl rfl rfl ?_
      obtain ⟨f6, ef6⟩ : ∃ v, m1 1 0 = v := ⟨_, rfl⟩
      have bf6 := ib_1_0 hIm1
      rw [ef6] at bf6
      refine zw_46i zr_93_13 ef6 rfl rfl rfl ?_
      refine zw_41_3 zr_93_16 ?_ ?_
      · intro h7
        refine zw_3 zr_93_89 rfl ?_
        refine zw_R zr_93_90 (by decide) zm_93 (v := (0, i2)) rfl ?_
        rw [← hQ]; exact ⟨_, rfl, by omega, by omega, hIm1, hFm1⟩
      · intro h8
        refine zw_3 zr_93_19 rfl ?_
        refine zw_push zr_93_20 ?_
        refine zw_16 zr_93_21 (by omega) ?_
        refine zw_9 (L' := [(2, 63), (0, i2), (0, i3), (0, (i3 + 1)), (9, 0)]) zr_93_22 (Nat.le_of_ble_eq_true rfl) rfl ?_
        have lp23_11 : ∀ (nlp23_11 : Nat) (i9 i10 : Int), (-2147483648) ≤ i9 → i9 ≤ 2147483647 → 1 ≤ i10 → i10 ≤ 10 → (10 - i10).toNat < nlp23_11 → zW E (d) 93 23 [(2, 63), (0, i9), (0, i3), (0, i10), (9, 0)] [] m1 Q := by
          intro nlp23_11
          induction nlp23_11 with
          | zero =>
            intros
            exact absurd (by assumption : _ < 0) (Nat.not_lt_zero _)
          | succ nlp23_11 ihlp23_11 =>
            intro i9 i10 li9 ui9 li10 ui10 hmlp23_11
            refine zw_3 zr_93_23 rfl ?_
            refine zw_7 zr_93_24 rfl ?_
            refine zw_46r (s := 1) zr_93_25 rfl rfl rfl rfl ?_
            refine zw_46i zr_93_28 ef6 rfl rfl rfl ?_
            refine zw_41_3 zr_93_31 ?_ ?_
            · intro h13
              refine zw_15 (c := 1) (L' := [(2, 63), (0, i9), (0, (i3 + 1)), (0, i10), (9, 0)]) zr_93_83 rfl (by decide) (by omega) rfl ?_
              refine zw_42 zr_93_86 ?_
              exact zw_less (L := [(2, 63), (0, i9), (0, (i3 + 1)), (9, 0), (9, 0)]) ⟨Or.inr rfl, Or.inr rfl, Or.inr rfl, Or.inl rfl, Or.inl rfl, trivial⟩ (ihlp8_4 (i9) ((i3 + 1))  (by omega) (by omega) (by omega) (by omega)  (by omega))
            · intro h14
              refine zw_3 zr_93_34 rfl ?_
              refine zw_push zr_93_35 ?_
              refine zw_16 zr_93_36 (by omega) ?_
              refine zw_10 (L' := [(2, 63), (0, i9), (0, i3), (0, i10), (0, (i10 + 1))]) zr_93_37 (Nat.le_of_ble_eq_true rfl) rfl ?_
              have lp39_17 : ∀ (nlp39_17 : Nat) (i15 i16 : Int), (-2147483648) ≤ i15 → i15 ≤ 2147483647 → 2 ≤ i16 → i16 ≤ 10 → (10 - i16).toNat < nlp39_17 → zW E (d) 93 39 [(2, 63), (0, i15), (0, i3), (0, i10), (0, i16)] [] m1 Q := by
                intro nlp39_17
                induction nlp39_17 with
                | zero =>
                  intros
                  exact absurd (by assumption : _ < 0) (Nat.not_lt_zero _)
                | succ nlp39_17 ihlp39_17 =>
                  intro i15 i16 li15 ui15 li16 ui16 hmlp39_17
                  refine zw_4 zr_93_39 rfl ?_
                  refine zw_7 zr_93_41 rfl ?_
                  refine zw_46r (s := 1) zr_93_42 rfl rfl rfl rfl ?_
                  refine zw_46i zr_93_45 ef6 rfl rfl rfl ?_
                  refine zw_41_3 zr_93_48 ?_ ?_
                  · intro h19
                    refine zw_15 (c := 1) (L' := [(2, 63), (0, i15), (0, i3), (0, (i10 + 1)), (0, i16)]) zr_93_77 rfl (by decide) (by omega) rfl ?_
                    refine zw_42 zr_93_80 ?_
                    exact zw_less (L := [(2, 63), (0, i15), (0, i3), (0, (i10 + 1)), (9, 0)]) ⟨Or.inr rfl, Or.inr rfl, Or.inr rfl, Or.inr rfl, Or.inl rfl, trivial⟩ (ihlp23_11 (i15) ((i10 + 1))  (by omega) (by omega) (by omega) (by omega)  (by omega))
                  · intro h20
                    refine zw_3 zr_93_51 rfl ?_
                    refine zw_7 zr_93_52 rfl ?_
                    refine zw_3 zr_93_53 rfl ?_
                    refine zw_3 zr_93_54 rfl ?_
                    refine zw_4 zr_93_55 rfl ?_
                    refine zw_C zr_93_57 (Or.inl rfl) zm_92 rfl rfl ⟨Nat.le_of_ble_eq_true rfl, Nat.le_of_ble_eq_true rfl, Nat.le_of_ble_eq_true rfl, rfl, by decide⟩ (by omega) (th_92 (d := d - 1) (by omega) hIm1 (a0 := i3) (a1 := i10) (a2 := i16)      (by omega) (by omega) (by omega) ) ?_
                    rintro _ _ ⟨r21, rfl, hr21a, hr21b, rfl⟩
                    show zW E (d) 93 60 [(2, 63), (0, i15), (0, i3), (0, i10), (0, i16)] [(0, r21), (0, i15)] m1 Q
                    refine zw_7 zr_93_60 rfl ?_
                    refine zw_3 zr_93_61 rfl ?_
                    refine zw_4 zr_93_62 rfl ?_
                    refine zw_3 zr_93_64 rfl ?_
                    refine zw_C zr_93_65 (Or.inl rfl) zm_92 rfl rfl ⟨Nat.le_of_ble_eq_true rfl, Nat.le_of_ble_eq_true rfl, Nat.le_of_ble_eq_true rfl, rfl, by decide⟩ (by omega) (th_92 (d := d - 1) (by omega) hIm1 (a0 := i3) (a1 := i16) (a2 := i10)      (by omega) (by omega) (by omega) ) ?_
                    rintro _ _ ⟨r22, rfl, hr22a, hr22b, rfl⟩
                    show zW E (d) 93 68 [(2, 63), (0, i15), (0, i3), (0, i10), (0, i16)] [(0, r22), (0, r21), (0, i15)] m1 Q
                    refine zw_16 zr_93_68 (by omega) ?_
                    refine zw_16h zr_93_69 ?_
                    intro x23 hx23a hx23b
                    refine zw_9 (L' := [(2, 63), (0, x23), (0, i3), (0, i10), (0, i16)]) zr_93_70 (Nat.le_of_ble_eq_true rfl) rfl ?_
                    refine zw_15 (c := 1) (L' := [(2, 63), (0, x23), (0, i3), (0, i10), (0, (i16 + 1))]) zr_93_71 rfl (by decide) (by omega) rfl ?_
                    refine zw_42 zr_93_74 ?_
                    exact zw_less (L := [(2, 63), (0, x23), (0, i3), (0, i10), (0, (i16 + 1))]) ⟨Or.inr rfl, Or.inr rfl, Or.inr rfl, Or.inr rfl, Or.inr rfl, trivial⟩ (ihlp39_17 (x23) ((i16 + 1))  (by omega) (by omega) (by omega) (by omega)  (by omega))
              exact lp39_17 _ (i9) ((i10 + 1))  (by omega) (by omega) (by omega) (by omega)  (Nat.lt_succ_self _)
        exact lp23_11 _ (i2) ((i3 + 1))  (by omega) (by omega) (by omega) (by omega)  (Nat.lt_succ_self _)
  exact lp8_4 _ (0) (0)  (by omega) (by omega) (by omega) (by omega)  (Nat.lt_succ_self _)

abbrev W_124 : List (Nat × Nat) := [(65, 1000)]
set_option maxHeartbeats 8000000 in
theorem th_124 {E : zE} {d : Nat} {m0 : zM} (hd : 4 ≤ d) (hI0 : zInv m0) : zC E d 124 [(2, 0)] m0 (fun v m' => ∃ r : Int, v = (0, r) ∧ (-2147483648) ≤ r ∧ r ≤ 2147483647 ∧ zInv m' ∧ zFr W_124 m0 m') := by
  have hF0 : zFr W_124 m0 m0 := zFr.rfl
  generalize hQ : (fun (v : zV) (m' : zM) => ∃ r : Int, v = (0, r) ∧ (-2147483648) ≤ r ∧ r ≤ 2147483647 ∧ zInv m' ∧ zFr W_124 m0 m') = Q
  show zW E d 124 0 [(2, 0)] [] m0 Q
  refine zw_7 zr_124_0 rfl ?_
  refine zw_46r (s := 63) zr_124_1 rfl rfl rfl rfl ?_
  refine zw_C zr_124_4 (Or.inl rfl) zm_93 rfl rfl ⟨Nat.le_of_ble_eq_true rfl, Nat.le_of_ble_eq_true rfl, Nat.le_of_ble_eq_true rfl, rfl, by decide⟩ (by omega) (th_93 (d := d - 1) (by omega) hI0        ) ?_
  rintro _ m1 ⟨r2, rfl, hr2a, hr2b, hIm1, gm1⟩
  have hFm1 : zFr W_124 m0 m1 := hF0.trans gm1 rfl
  show zW E (d) 124 7 [(2, 0)] [(0, r2)] m1 Q
  refine zw_R zr_124_7 (by decide) zm_124 (v := (0, r2)) rfl ?_
  rw [← hQ]; exact ⟨_, rfl, by omega, by omega, hIm1, hFm1⟩

set_option maxHeartbeats 8000000 in
theorem th_197 {E : zE} {d : Nat} {m0 : zM} {a0 : Int} {a1 : Int} (hd : 2 ≤ d) (hI0 : zInv m0) (ha0 : 0 ≤ a0 ∧ a0 ≤ 9) (ha1 : 0 ≤ a1 ∧ a1 ≤ 9) : zC E d 197 [(2, 69), (0, a0), (0, a1)] m0 (fun v m' => ∃ r : Int, v = (0, r) ∧ 0 ≤ r ∧ r ≤ 1 ∧ m0 = m') := by
  generalize hQ : (fun (v : zV) (m' : zM) => ∃ r : Int, v = (0, r) ∧ 0 ≤ r ∧ r ≤ 1 ∧ m0 = m') = Q
  show zW E d 197 0 [(2, 69), (0, a0), (0, a1), (9, 0), (9, 0), (9, 0)] [] m0 Q
  refine zw_push zr_197_0 ?_
  refine zw_9 (L' := [(2, 69), (0, a0), (0, a1), (0, 0), (9, 0), (9, 0)]) zr_197_1 (Nat.le_of_ble_eq_true rfl) rfl ?_
  refine zw_push zr_197_2 ?_
  refine zw_10 (L' := [(2, 69), (0, a0), (0, a1), (0, 0), (0, 0), (9, 0)]) zr_197_3 (Nat.le_of_ble_eq_true rfl) rfl ?_
  have lp5_3 : ∀ (nlp5_3 : Nat) (i1 i2 : Int), 0 ≤ i1 → i1 ≤ 1 → 0 ≤ i2 → i2 ≤ 60 → (60 - i2).toNat < nlp5_3 → zW E (d) 197 5 [(2, 69), (0, a0), (0, a1), (0, i1), (0, i2), (9, 0)] [] m0 Q := by
    intro nlp5_3
    induction nlp5_3 with
    | zero =>
      intros
      exact absurd (by assumption : _ < 0) (Nat.not_lt_zero _)
    | succ nlp5_3 ihlp5_3 =>
      intro i1 i2 li1 ui1 li2 ui2 hmlp5_3
      refine zw_4 zr_197_5 rfl ?_
      refine zw_7 zr_197_7 rfl ?_
      refine zw_C zr_197_8 (Or.inl rfl) zm_142 rfl rfl ⟨Nat.le_of_ble_eq_true rfl, Nat.le_of_ble_eq_true rfl, Nat.le_of_ble_eq_true rfl, rfl, by decide⟩ (by omega) (P := (fun v m' => zW E (d) 197 11 [(2, 69), (0, a0), (0, a1), (0, i1), (0, i2), (9, 0)] (if v.1 = 9 then [(0, i2)] else v :: [(0, i2)]) m' Q)) ?_ (fun _ _ h => h)
      generalize hQ1 : (fun v m' => zW E (d) 197 11 [(2, 69), (0, a0), (0, a1), (0, i1), (0, i2), (9, 0)] (if v.1 = 9 then [(0, i2)] else v :: [(0, i2)]) m' Q) = Q1
      show zW E (d - 1) 142 0 [(2, 69)] [] m0 Q1
      refine zw_7 zr_142_0 rfl ?_
      refine zw_46r (s := 70) zr_142_1 rfl rfl rfl rfl ?_
      refine zw_push zr_142_4 ?_
      obtain ⟨f5, ef5⟩ : ∃ v, m0 70 823 = v := ⟨_, rfl⟩
      have bf5 : 0 ≤ m0 70 823 ∧ m0 70 823 ≤ 60 := ib_70_meetings hI0 (by omega)
      rw [ef5] at bf5
      refine zw_48k (c := 70) (len := 826) zr_142_7 rfl rfl (by omega) (by omega) (show (823 : Int).toNat = 823 by omega) ef5 ?_
      refine zw_R zr_142_8 (by decide) zm_142 (v := (0, f5)) rfl ?_
      rw [← hQ1]
      show zW E (d) 197 11 [(2, 69), (0, a0), (0, a1), (0, i1), (0, i2), (9, 0)] [(0, f5), (0, i2)] m0 Q
      refine zw_41_3 zr_197_11 ?_ ?_
      · intro h6
        refine zw_3 zr_197_117 rfl ?_
        refine zw_R zr_197_118 (by decide) zm_197 (v := (0, i1)) (zRetB (by omega)) ?_
        rw [← hQ]; exact ⟨_, rfl, by omega, by omega, rfl⟩
      · intro h7
        refine zw_7 zr_197_14 rfl ?_
        refine zw_4 zr_197_15 rfl ?_
        refine zw_push zr_197_17 ?_
        refine zw_C zr_197_18 (Or.inl rfl) zm_144 rfl rfl ⟨Nat.le_of_ble_eq_true rfl, Nat.le_of_ble_eq_true rfl, Nat.le_of_ble_eq_true rfl, rfl, by decide⟩ (by omega) (P := (fun v m' => zW E (d) 197 21 [(2, 69), (0, a0), (0, a1), (0, i1), (0, i2), (9, 0)] (if v.1 = 9 then [] else v :: []) m' Q)) ?_ (fun _ _ h => h)
        generalize hQ1 : (fun v m' => zW E (d) 197 21 [(2, 69), (0, a0), (0, a1), (0, i1), (0, i2), (9, 0)] (if v.1 = 9 then [] else v :: []) m' Q) = Q1
        show zW E (d - 1) 144 0 [(2, 69), (0, i2), (0, 1)] [] m0 Q1
        refine zw_7 zr_144_0 rfl ?_
        refine zw_46r (s := 70) zr_144_1 rfl rfl rfl rfl ?_
        refine zw_push zr_144_4 ?_
        refine zw_push zr_144_6 ?_
        refine zw_3 zr_144_8 rfl ?_
        refine zw_18 zr_144_9 (by omega) ?_
        refine zw_16 zr_144_10 (by omega) ?_
        refine zw_3 zr_144_11 rfl ?_
        refine zw_16 zr_144_12 (by omega) ?_
        refine zw_48 (c := 70) (len := 826) zr_144_13 rfl rfl (by omega) (by omega) ?_
        intro x8 ex8
        have bx8 := ib_70_m1 hI0 (k := (((90 + (6 * i2)) + 1)).toNat) (by omega)
        rw [← ex8] at bx8
        refine zw_R zr_144_14 (by decide) zm_144 (v := (0, x8)) rfl ?_
        rw [← hQ1]
        show zW E (d) 197 21 [(2, 69), (0, a0), (0, a1), (0, i1), (0, i2), (9, 0)] [(0, x8)] m0 Q
        refine zw_3 zr_197_21 rfl ?_
        refine zw_41_4 zr_197_22 ?_ ?_
        · intro h9
          refine zw_7 zr_197_47 rfl ?_
          refine zw_4 zr_197_48 rfl ?_
          refine zw_push zr_197_50 ?_
          refine zw_C zr_197_51 (Or.inl rfl) zm_144 rfl rfl ⟨Nat.le_of_ble_eq_true rfl, Nat.le_of_ble_eq_true rfl, Nat.le_of_ble_eq_true rfl, rfl, by decide⟩ (by omega) (P := (fun v m' => zW E (d) 197 54 [(2, 69), (0, a0), (0, a1), (0, i1), (0, i2), (9, 0)] (if v.1 = 9 then [] else v :: []) m' Q)) ?_ (fun _ _ h => h)
          generalize hQ1 : (fun v m' => zW E (d) 197 54 [(2, 69), (0, a0), (0, a1), (0, i1), (0, i2), (9, 0)] (if v.1 = 9 then [] else v :: []) m' Q) = Q1
          show zW E (d - 1) 144 0 [(2, 69), (0, i2), (0, 1)] [] m0 Q1
          refine zw_7 zr_144_0 rfl ?_
          refine zw_46r (s := 70) zr_144_1 rfl rfl rfl rfl ?_
          refine zw_push zr_144_4 ?_
          refine zw_push zr_144_6 ?_
          refine zw_3 zr_144_8 rfl ?_
          refine zw_18 zr_144_9 (by omega) ?_
          refine zw_16 zr_144_10 (by omega) ?_
          refine zw_3 zr_144_11 rfl ?_
          refine zw_16 zr_144_12 (by omega) ?_
          refine zw_48k (c := 70) (len := 826) zr_144_13 rfl rfl (by omega) (by omega) rfl ex8.symm ?_
          refine zw_R zr_144_14 (by decide) zm_144 (v := (0, x8)) rfl ?_
          rw [← hQ1]
          show zW E (d) 197 54 [(2, 69), (0, a0), (0, a1), (0, i1), (0, i2), (9, 0)] [(0, x8)] m0 Q
          refine zw_3 zr_197_54 rfl ?_
          refine zw_41_4 zr_197_55 ?_ ?_
          · intro h10
            refine zw_push zr_197_83 ?_
            refine zw_10 (L' := [(2, 69), (0, a0), (0, a1), (0, i1), (0, i2), (0, 0)]) zr_197_84 (Nat.le_of_ble_eq_true rfl) rfl ?_
            refine zw_3 zr_197_86 rfl ?_
            refine zw_40_4 zr_197_87 ?_ ?_
            · intro h11
              refine zw_push zr_197_105 ?_
              refine zw_42 zr_197_106 ?_
              refine zw_9 (L' := [(2, 69), (0, a0), (0, a1), (0, 1), (0, i2), (0, 0)]) zr_197_110 (Nat.le_of_ble_eq_true rfl) rfl ?_
              refine zw_15 (c := 1) (L' := [(2, 69), (0, a0), (0, a1), (0, 1), (0, (i2 + 1)), (0, 0)]) zr_197_111 rfl (by decide) (by omega) rfl ?_
              refine zw_42 zr_197_114 ?_
              exact zw_less (L := [(2, 69), (0, a0), (0, a1), (0, 1), (0, (i2 + 1)), (9, 0)]) ⟨Or.inr rfl, Or.inr rfl, Or.inr rfl, Or.inr rfl, Or.inr rfl, Or.inl rfl, trivial⟩ (ihlp5_3 (1) ((i2 + 1))  (by omega) (by omega) (by omega) (by omega)  (by omega))
            · intro h12
              refine zw_4 zr_197_90 rfl ?_
              refine zw_40_1 zr_197_92 ?_ ?_
              · intro h13
                refine zw_push zr_197_109 ?_
                refine zw_9 (L' := [(2, 69), (0, a0), (0, a1), (0, 0), (0, i2), (0, 0)]) zr_197_110 (Nat.le_of_ble_eq_true rfl) rfl ?_
                refine zw_15 (c := 1) (L' := [(2, 69), (0, a0), (0, a1), (0, 0), (0, (i2 + 1)), (0, 0)]) zr_197_111 rfl (by decide) (by omega) rfl ?_
                refine zw_42 zr_197_114 ?_
                exact zw_less (L := [(2, 69), (0, a0), (0, a1), (0, 0), (0, (i2 + 1)), (9, 0)]) ⟨Or.inr rfl, Or.inr rfl, Or.inr rfl, Or.inr rfl, Or.inr rfl, Or.inl rfl, trivial⟩ (ihlp5_3 (0) ((i2 + 1))  (by omega) (by omega) (by omega) (by omega)  (by omega))
              · intro h14; omega
          · intro h15
            refine zw_7 zr_197_58 rfl ?_
            refine zw_4 zr_197_59 rfl ?_
            refine zw_push zr_197_61 ?_
            refine zw_C zr_197_62 (Or.inl rfl) zm_144 rfl rfl ⟨Nat.le_of_ble_eq_true rfl, Nat.le_of_ble_eq_true rfl, Nat.le_of_ble_eq_true rfl, rfl, by decide⟩ (by omega) (P := (fun v m' => zW E (d) 197 65 [(2, 69), (0, a0), (0, a1), (0, i1), (0, i2), (9, 0)] (if v.1 = 9 then [] else v :: []) m' Q)) ?_ (fun _ _ h => h)
            generalize hQ1 : (fun v m' => zW E (d) 197 65 [(2, 69), (0, a0), (0, a1), (0, i1), (0, i2), (9, 0)] (if v.1 = 9 then [] else v :: []) m' Q) = Q1
            show zW E (d - 1) 144 0 [(2, 69), (0, i2), (0, 2)] [] m0 Q1
            refine zw_7 zr_144_0 rfl ?_
            refine zw_46r (s := 70) zr_144_1 rfl rfl rfl rfl ?_
            refine zw_push zr_144_4 ?_
            refine zw_push zr_144_6 ?_
            refine zw_3 zr_144_8 rfl ?_
            refine zw_18 zr_144_9 (by omega) ?_
            refine zw_16 zr_144_10 (by omega) ?_
            refine zw_3 zr_144_11 rfl ?_
            refine zw_16 zr_144_12 (by omega) ?_
            refine zw_48 (c := 70) (len := 826) zr_144_13 rfl rfl (by omega) (by omega) ?_
            intro x16 ex16
            have bx16 := ib_70_m2 hI0 (k := (((90 + (6 * i2)) + 2)).toNat) (by omega)
            rw [← ex16] at bx16
            refine zw_R zr_144_14 (by decide) zm_144 (v := (0, x16)) rfl ?_
            rw [← hQ1]
            show zW E (d) 197 65 [(2, 69), (0, a0), (0, a1), (0, i1), (0, i2), (9, 0)] [(0, x16)] m0 Q
            refine zw_3 zr_197_65 rfl ?_
            refine zw_41_4 zr_197_66 ?_ ?_
            · intro h17
              refine zw_push zr_197_83 ?_
              refine zw_10 (L' := [(2, 69), (0, a0), (0, a1), (0, i1), (0, i2), (0, 0)]) zr_197_84 (Nat.le_of_ble_eq_true rfl) rfl ?_
              refine zw_3 zr_197_86 rfl ?_
              refine zw_40_4 zr_197_87 ?_ ?_
              · intro h18
                refine zw_push zr_197_105 ?_
                refine zw_42 zr_197_106 ?_
                refine zw_9 (L' := [(2, 69), (0, a0), (0, a1), (0, 1), (0, i2), (0, 0)]) zr_197_110 (Nat.le_of_ble_eq_true rfl) rfl ?_
                refine zw_15 (c := 1) (L' := [(2, 69), (0, a0), (0, a1), (0, 1), (0, (i2 + 1)), (0, 0)]) zr_197_111 rfl (by decide) (by omega) rfl ?_
                refine zw_42 zr_197_114 ?_
                exact zw_less (L := [(2, 69), (0, a0), (0, a1), (0, 1), (0, (i2 + 1)), (9, 0)]) ⟨Or.inr rfl, Or.inr rfl, Or.inr rfl, Or.inr rfl, Or.inr rfl, Or.inl rfl, trivial⟩ (ihlp5_3 (1) ((i2 + 1))  (by omega) (by omega) (by omega) (by omega)  (by omega))
              · intro h19
                refine zw_4 zr_197_90 rfl ?_
                refine zw_40_1 zr_197_92 ?_ ?_
                · intro h20
                  refine zw_push zr_197_109 ?_
                  refine zw_9 (L' := [(2, 69), (0, a0), (0, a1), (0, 0), (0, i2), (0, 0)]) zr_197_110 (Nat.le_of_ble_eq_true rfl) rfl ?_
                  refine zw_15 (c := 1) (L' := [(2, 69), (0, a0), (0, a1), (0, 0), (0, (i2 + 1)), (0, 0)]) zr_197_111 rfl (by decide) (by omega) rfl ?_
                  refine zw_42 zr_197_114 ?_
                  exact zw_less (L := [(2, 69), (0, a0), (0, a1), (0, 0), (0, (i2 + 1)), (9, 0)]) ⟨Or.inr rfl, Or.inr rfl, Or.inr rfl, Or.inr rfl, Or.inr rfl, Or.inl rfl, trivial⟩ (ihlp5_3 (0) ((i2 + 1))  (by omega) (by omega) (by omega) (by omega)  (by omega))
                · intro h21; omega
            · intro h22
              refine zw_7 zr_197_69 rfl ?_
              refine zw_4 zr_197_70 rfl ?_
              refine zw_push zr_197_72 ?_
              refine zw_C zr_197_73 (Or.inl rfl) zm_144 rfl rfl ⟨Nat.le_of_ble_eq_true rfl, Nat.le_of_ble_eq_true rfl, Nat.le_of_ble_eq_true rfl, rfl, by decide⟩ (by omega) (P := (fun v m' => zW E (d) 197 76 [(2, 69), (0, a0), (0, a1), (0, i1), (0, i2), (9, 0)] (if v.1 = 9 then [] else v :: []) m' Q)) ?_ (fun _ _ h => h)
              generalize hQ1 : (fun v m' => zW E (d) 197 76 [(2, 69), (0, a0), (0, a1), (0, i1), (0, i2), (9, 0)] (if v.1 = 9 then [] else v :: []) m' Q) = Q1
              show zW E (d - 1) 144 0 [(2, 69), (0, i2), (0, 3)] [] m0 Q1
              refine zw_7 zr_144_0 rfl ?_
              refine zw_46r (s := 70) zr_144_1 rfl rfl rfl rfl ?_
              refine zw_push zr_144_4 ?_
              refine zw_push zr_144_6 ?_
              refine zw_3 zr_144_8 rfl ?_
              refine zw_18 zr_144_9 (by omega) ?_
              refine zw_16 zr_144_10 (by omega) ?_
              refine zw_3 zr_144_11 rfl ?_
              refine zw_16 zr_144_12 (by omega) ?_
              refine zw_48 (c := 70) (len := 826) zr_144_13 rfl rfl (by omega) (by omega) ?_
              intro x23 ex23
              have bx23 := ib_70_m3 hI0 (k := (((90 + (6 * i2)) + 3)).toNat) (by omega)
              rw [← ex23] at bx23
              refine zw_R zr_144_14 (by decide) zm_144 (v := (0, x23)) rfl ?_
              rw [← hQ1]
              show zW E (d) 197 76 [(2, 69), (0, a0), (0, a1), (0, i1), (0, i2), (9, 0)] [(0, x23)] m0 Q
              refine zw_40_4 zr_197_76 ?_ ?_
              · intro h24
                refine zw_push zr_197_83 ?_
                refine zw_10 (L' := [(2, 69), (0, a0), (0, a1), (0, i1), (0, i2), (0, 0)]) zr_197_84 (Nat.le_of_ble_eq_true rfl) rfl ?_
                refine zw_3 zr_197_86 rfl ?_
                refine zw_40_4 zr_197_87 ?_ ?_
                · intro h25
                  refine zw_push zr_197_105 ?_
                  refine zw_42 zr_197_106 ?_
                  refine zw_9 (L' := [(2, 69), (0, a0), (0, a1), (0, 1), (0, i2), (0, 0)]) zr_197_110 (Nat.le_of_ble_eq_true rfl) rfl ?_
                  refine zw_15 (c := 1) (L' := [(2, 69), (0, a0), (0, a1), (0, 1), (0, (i2 + 1)), (0, 0)]) zr_197_111 rfl (by decide) (by omega) rfl ?_
                  refine zw_42 zr_197_114 ?_
                  exact zw_less (L := [(2, 69), (0, a0), (0, a1), (0, 1), (0, (i2 + 1)), (9, 0)]) ⟨Or.inr rfl, Or.inr rfl, Or.inr rfl, Or.inr rfl, Or.inr rfl, Or.inl rfl, trivial⟩ (ihlp5_3 (1) ((i2 + 1))  (by omega) (by omega) (by omega) (by omega)  (by omega))
                · intro h26
                  refine zw_4 zr_197_90 rfl ?_
                  refine zw_40_1 zr_197_92 ?_ ?_
                  · intro h27
                    refine zw_push zr_197_109 ?_
                    refine zw_9 (L' := [(2, 69), (0, a0), (0, a1), (0, 0), (0, i2), (0, 0)]) zr_197_110 (Nat.le_of_ble_eq_true rfl) rfl ?_
                    refine zw_15 (c := 1) (L' := [(2, 69), (0, a0), (0, a1), (0, 0), (0, (i2 + 1)), (0, 0)]) zr_197_111 rfl (by decide) (by omega) rfl ?_
                    refine zw_42 zr_197_114 ?_
                    exact zw_less (L := [(2, 69), (0, a0), (0, a1), (0, 0), (0, (i2 + 1)), (9, 0)]) ⟨Or.inr rfl, Or.inr rfl, Or.inr rfl, Or.inr rfl, Or.inr rfl, Or.inl rfl, trivial⟩ (ihlp5_3 (0) ((i2 + 1))  (by omega) (by omega) (by omega) (by omega)  (by omega))
                  · intro h28; omega
              · intro h29
                refine zw_push zr_197_79 ?_
                refine zw_42 zr_197_80 ?_
                refine zw_10 (L' := [(2, 69), (0, a0), (0, a1), (0, i1), (0, i2), (0, 1)]) zr_197_84 (Nat.le_of_ble_eq_true rfl) rfl ?_
                refine zw_3 zr_197_86 rfl ?_
                refine zw_40_4 zr_197_87 ?_ ?_
                · intro h30
                  refine zw_push zr_197_105 ?_
                  refine zw_42 zr_197_106 ?_
                  refine zw_9 (L' := [(2, 69), (0, a0), (0, a1), (0, 1), (0, i2), (0, 1)]) zr_197_110 (Nat.le_of_ble_eq_true rfl) rfl ?_
                  refine zw_15 (c := 1) (L' := [(2, 69), (0, a0), (0, a1), (0, 1), (0, (i2 + 1)), (0, 1)]) zr_197_111 rfl (by decide) (by omega) rfl ?_
                  refine zw_42 zr_197_114 ?_
                  exact zw_less (L := [(2, 69), (0, a0), (0, a1), (0, 1), (0, (i2 + 1)), (9, 0)]) ⟨Or.inr rfl, Or.inr rfl, Or.inr rfl, Or.inr rfl, Or.inr rfl, Or.inl rfl, trivial⟩ (ihlp5_3 (1) ((i2 + 1))  (by omega) (by omega) (by omega) (by omega)  (by omega))
                · intro h31
                  refine zw_4 zr_197_90 rfl ?_
                  refine zw_40_1 zr_197_92 ?_ ?_
                  · intro h32; omega
                  · intro h33
                    refine zw_7 zr_197_95 rfl ?_
                    refine zw_4 zr_197_96 rfl ?_
                    refine zw_push zr_197_98 ?_
                    refine zw_C zr_197_99 (Or.inl rfl) zm_144 rfl rfl ⟨Nat.le_of_ble_eq_true rfl, Nat.le_of_ble_eq_true rfl, Nat.le_of_ble_eq_true rfl, rfl, by decide⟩ (by omega) (P := (fun v m' => zW E (d) 197 102 [(2, 69), (0, a0), (0, a1), (0, i1), (0, i2), (0, 1)] (if v.1 = 9 then [] else v :: []) m' Q)) ?_ (fun _ _ h => h)
                    generalize hQ1 : (fun v m' => zW E (d) 197 102 [(2, 69), (0, a0), (0, a1), (0, i1), (0, i2), (0, 1)] (if v.1 = 9 then [] else v :: []) m' Q) = Q1
                    show zW E (d - 1) 144 0 [(2, 69), (0, i2), (0, 4)] [] m0 Q1
                    refine zw_7 zr_144_0 rfl ?_
                    refine zw_46r (s := 70) zr_144_1 rfl rfl rfl rfl ?_
                    refine zw_push zr_144_4 ?_
                    refine zw_push zr_144_6 ?_
                    refine zw_3 zr_144_8 rfl ?_
                    refine zw_18 zr_144_9 (by omega) ?_
                    refine zw_16 zr_144_10 (by omega) ?_
                    refine zw_3 zr_144_11 rfl ?_
                    refine zw_16 zr_144_12 (by omega) ?_
                    refine zw_48 (c := 70) (len := 826) zr_144_13 rfl rfl (by omega) (by omega) ?_
                    intro x34 ex34
                    have bx34 := ib_70_m4 hI0 (k := (((90 + (6 * i2)) + 4)).toNat) (by omega)
                    rw [← ex34] at bx34
                    refine zw_R zr_144_14 (by decide) zm_144 (v := (0, x34)) rfl ?_
                    rw [← hQ1]
                    show zW E (d) 197 102 [(2, 69), (0, a0), (0, a1), (0, i1), (0, i2), (0, 1)] [(0, x34)] m0 Q
                    refine zw_40_4 zr_197_102 ?_ ?_
                    · intro h35
                      refine zw_push zr_197_109 ?_
                      refine zw_9 (L' := [(2, 69), (0, a0), (0, a1), (0, 0), (0, i2), (0, 1)]) zr_197_110 (Nat.le_of_ble_eq_true rfl) rfl ?_
                      refine zw_15 (c := 1) (L' := [(2, 69), (0, a0), (0, a1), (0, 0), (0, (i2 + 1)), (0, 1)]) zr_197_111 rfl (by decide) (by omega) rfl ?_
                      refine zw_42 zr_197_114 ?_
                      exact zw_less (L := [(2, 69), (0, a0), (0, a1), (0, 0), (0, (i2 + 1)), (9, 0)]) ⟨Or.inr rfl, Or.inr rfl, Or.inr rfl, Or.inr rfl, Or.inr rfl, Or.inl rfl, trivial⟩ (ihlp5_3 (0) ((i2 + 1))  (by omega) (by omega) (by omega) (by omega)  (by omega))
                    · intro h36
                      refine zw_push zr_197_105 ?_
                      refine zw_42 zr_197_106 ?_
                      refine zw_9 (L' := [(2, 69), (0, a0), (0, a1), (0, 1), (0, i2), (0, 1)]) zr_197_110 (Nat.le_of_ble_eq_true rfl) rfl ?_
                      refine zw_15 (c := 1) (L' := [(2, 69), (0, a0), (0, a1), (0, 1), (0, (i2 + 1)), (0, 1)]) zr_197_111 rfl (by decide) (by omega) rfl ?_
                      refine zw_42 zr_197_114 ?_
                      exact zw_less (L := [(2, 69), (0, a0), (0, a1), (0, 1), (0, (i2 + 1)), (9, 0)]) ⟨Or.inr rfl, Or.inr rfl, Or.inr rfl, Or.inr rfl, Or.inr rfl, Or.inl rfl, trivial⟩ (ihlp5_3 (1) ((i2 + 1))  (by omega) (by omega) (by omega) (by omega)  (by omega))
        · intro h37
          refine zw_7 zr_197_25 rfl ?_
          refine zw_4 zr_197_26 rfl ?_
          refine zw_push zr_197_28 ?_
          refine zw_C zr_197_29 (Or.inl rfl) zm_144 rfl rfl ⟨Nat.le_of_ble_eq_true rfl, Nat.le_of_ble_eq_true rfl, Nat.le_of_ble_eq_true rfl, rfl, by decide⟩ (by omega) (P := (fun v m' => zW E (d) 197 32 [(2, 69), (0, a0), (0, a1), (0, i1), (0, i2), (9, 0)] (if v.1 = 9 then [] else v :: []) m' Q)) ?_ (fun _ _ h => h)
          generalize hQ1 : (fun v m' => zW E (d) 197 32 [(2, 69), (0, a0), (0, a1), (0, i1), (0, i2), (9, 0)] (if v.1 = 9 then [] else v :: []) m' Q) = Q1
          show zW E (d - 1) 144 0 [(2, 69), (0, i2), (0, 2)] [] m0 Q1
          refine zw_7 zr_144_0 rfl ?_
          refine zw_46r (s := 70) zr_144_1 rfl rfl rfl rfl ?_
          refine zw_push zr_144_4 ?_
          refine zw_push zr_144_6 ?_
          refine zw_3 zr_144_8 rfl ?_
          refine zw_18 zr_144_9 (by omega) ?_
          refine zw_16 zr_144_10 (by omega) ?_
          refine zw_3 zr_144_11 rfl ?_
          refine zw_16 zr_144_12 (by omega) ?_
          refine zw_48 (c := 70) (len := 826) zr_144_13 rfl rfl (by omega) (by omega) ?_
          intro x38 ex38
          have bx38 := ib_70_m2 hI0 (k := (((90 + (6 * i2)) + 2)).toNat) (by omega)
          rw [← ex38] at bx38
          refine zw_R zr_144_14 (by decide) zm_144 (v := (0, x38)) rfl ?_
          rw [← hQ1]
          show zW E (d) 197 32 [(2, 69), (0, a0), (0, a1), (0, i1), (0, i2), (9, 0)] [(0, x38)] m0 Q
          refine zw_3 zr_197_32 rfl ?_
          refine zw_41_4 zr_197_33 ?_ ?_
          · intro h39
            refine zw_7 zr_197_47 rfl ?_
            refine zw_4 zr_197_48 rfl ?_
            refine zw_push zr_197_50 ?_
            refine zw_C zr_197_51 (Or.inl rfl) zm_144 rfl rfl ⟨Nat.le_of_ble_eq_true rfl, Nat.le_of_ble_eq_true rfl, Nat.le_of_ble_eq_true rfl, rfl, by decide⟩ (by omega) (P := (fun v m' => zW E (d) 197 54 [(2, 69), (0, a0), (0, a1), (0, i1), (0, i2), (9, 0)] (if v.1 = 9 then [] else v :: []) m' Q)) ?_ (fun _ _ h => h)
            generalize hQ1 : (fun v m' => zW E (d) 197 54 [(2, 69), (0, a0), (0, a1), (0, i1), (0, i2), (9, 0)] (if v.1 = 9 then [] else v :: []) m' Q) = Q1
            show zW E (d - 1) 144 0 [(2, 69), (0, i2), (0, 1)] [] m0 Q1
            refine zw_7 zr_144_0 rfl ?_
            refine zw_46r (s := 70) zr_144_1 rfl rfl rfl rfl ?_
            refine zw_push zr_144_4 ?_
            refine zw_push zr_144_6 ?_
            refine zw_3 zr_144_8 rfl ?_
            refine zw_18 zr_144_9 (by omega) ?_
            refine zw_16 zr_144_10 (by omega) ?_
            refine zw_3 zr_144_11 rfl ?_
            refine zw_16 zr_144_12 (by omega) ?_
            refine zw_48k (c := 70) (len := 826) zr_144_13 rfl rfl (by omega) (by omega) rfl ex8.symm ?_
            refine zw_R zr_144_14 (by decide) zm_144 (v := (0, x8)) rfl ?_
            rw [← hQ1]
            show zW E (d) 197 54 [(2, 69), (0, a0), (0, a1), (0, i1), (0, i2), (9, 0)] [(0, x8)] m0 Q
            refine zw_3 zr_197_54 rfl ?_
            refine zw_41_4 zr_197_55 ?_ ?_
            · intro h40
              refine zw_push zr_197_83 ?_
              refine zw_10 (L' := [(2, 69), (0, a0), (0, a1), (0, i1), (0, i2), (0, 0)]) zr_197_84 (Nat.le_of_ble_eq_true rfl) rfl ?_
              refine zw_3 zr_197_86 rfl ?_
              refine zw_40_4 zr_197_87 ?_ ?_
              · intro h41
                refine zw_push zr_197_105 ?_
                refine zw_42 zr_197_106 ?_
                refine zw_9 (L' := [(2, 69), (0, a0), (0, a1), (0, 1), (0, i2), (0, 0)]) zr_197_110 (Nat.le_of_ble_eq_true rfl) rfl ?_
                refine zw_15 (c := 1) (L' := [(2, 69), (0, a0), (0, a1), (0, 1), (0, (i2 + 1)), (0, 0)]) zr_197_111 rfl (by decide) (by omega) rfl ?_
                refine zw_42 zr_197_114 ?_
                exact zw_less (L := [(2, 69), (0, a0), (0, a1), (0, 1), (0, (i2 + 1)), (9, 0)]) ⟨Or.inr rfl, Or.inr rfl, Or.inr rfl, Or.inr rfl, Or.inr rfl, Or.inl rfl, trivial⟩ (ihlp5_3 (1) ((i2 + 1))  (by omega) (by omega) (by omega) (by omega)  (by omega))
              · intro h42
                refine zw_4 zr_197_90 rfl ?_
                refine zw_40_1 zr_197_92 ?_ ?_
                · intro h43
                  refine zw_push zr_197_109 ?_
                  refine zw_9 (L' := [(2, 69), (0, a0), (0, a1), (0, 0), (0, i2), (0, 0)]) zr_197_110 (Nat.le_of_ble_eq_true rfl) rfl ?_
                  refine zw_15 (c := 1) (L' := [(2, 69), (0, a0), (0, a1), (0, 0), (0, (i2 + 1)), (0, 0)]) zr_197_111 rfl (by decide) (by omega) rfl ?_
                  refine zw_42 zr_197_114 ?_
                  exact zw_less (L := [(2, 69), (0, a0), (0, a1), (0, 0), (0, (i2 + 1)), (9, 0)]) ⟨Or.inr rfl, Or.inr rfl, Or.inr rfl, Or.inr rfl, Or.inr rfl, Or.inl rfl, trivial⟩ (ihlp5_3 (0) ((i2 + 1))  (by omega) (by omega) (by omega) (by omega)  (by omega))
                · intro h44; omega
            · intro h45
              refine zw_7 zr_197_58 rfl ?_
              refine zw_4 zr_197_59 rfl ?_
              refine zw_push zr_197_61 ?_
              refine zw_C zr_197_62 (Or.inl rfl) zm_144 rfl rfl ⟨Nat.le_of_ble_eq_true rfl, Nat.le_of_ble_eq_true rfl, Nat.le_of_ble_eq_true rfl, rfl, by decide⟩ (by omega) (P := (fun v m' => zW E (d) 197 65 [(2, 69), (0, a0), (0, a1), (0, i1), (0, i2), (9, 0)] (if v.1 = 9 then [] else v :: []) m' Q)) ?_ (fun _ _ h => h)
              generalize hQ1 : (fun v m' => zW E (d) 197 65 [(2, 69), (0, a0), (0, a1), (0, i1), (0, i2), (9, 0)] (if v.1 = 9 then [] else v :: []) m' Q) = Q1
              show zW E (d - 1) 144 0 [(2, 69), (0, i2), (0, 2)] [] m0 Q1
              refine zw_7 zr_144_0 rfl ?_
              refine zw_46r (s := 70) zr_144_1 rfl rfl rfl rfl ?_
              refine zw_push zr_144_4 ?_
              refine zw_push zr_144_6 ?_
              refine zw_3 zr_144_8 rfl ?_
              refine zw_18 zr_144_9 (by omega) ?_
              refine zw_16 zr_144_10 (by omega) ?_
              refine zw_3 zr_144_11 rfl ?_
              refine zw_16 zr_144_12 (by omega) ?_
              refine zw_48k (c := 70) (len := 826) zr_144_13 rfl rfl (by omega) (by omega) rfl ex38.symm ?_
              refine zw_R zr_144_14 (by decide) zm_144 (v := (0, x38)) rfl ?_
              rw [← hQ1]
              show zW E (d) 197 65 [(2, 69), (0, a0), (0, a1), (0, i1), (0, i2), (9, 0)] [(0, x38)] m0 Q
              refine zw_3 zr_197_65 rfl ?_
              refine zw_41_4 zr_197_66 ?_ ?_
              · intro h46
                refine zw_push zr_197_83 ?_
                refine zw_10 (L' := [(2, 69), (0, a0), (0, a1), (0, i1), (0, i2), (0, 0)]) zr_197_84 (Nat.le_of_ble_eq_true rfl) rfl ?_
                refine zw_3 zr_197_86 rfl ?_
                refine zw_40_4 zr_197_87 ?_ ?_
                · intro h47
                  refine zw_push zr_197_105 ?_
                  refine zw_42 zr_197_106 ?_
                  refine zw_9 (L' := [(2, 69), (0, a0), (0, a1), (0, 1), (0, i2), (0, 0)]) zr_197_110 (Nat.le_of_ble_eq_true rfl) rfl ?_
                  refine zw_15 (c := 1) (L' := [(2, 69), (0, a0), (0, a1), (0, 1), (0, (i2 + 1)), (0, 0)]) zr_197_111 rfl (by decide) (by omega) rfl ?_
                  refine zw_42 zr_197_114 ?_
                  exact zw_less (L := [(2, 69), (0, a0), (0, a1), (0, 1), (0, (i2 + 1)), (9, 0)]) ⟨Or.inr rfl, Or.inr rfl, Or.inr rfl, Or.inr rfl, Or.inr rfl, Or.inl rfl, trivial⟩ (ihlp5_3 (1) ((i2 + 1))  (by omega) (by omega) (by omega) (by omega)  (by omega))
                · intro h48
                  refine zw_4 zr_197_90 rfl ?_
                  refine zw_40_1 zr_197_92 ?_ ?_
                  · intro h49
                    refine zw_push zr_197_109 ?_
                    refine zw_9 (L' := [(2, 69), (0, a0), (0, a1), (0, 0), (0, i2), (0, 0)]) zr_197_110 (Nat.le_of_ble_eq_true rfl) rfl ?_
                    refine zw_15 (c := 1) (L' := [(2, 69), (0, a0), (0, a1), (0, 0), (0, (i2 + 1)), (0, 0)]) zr_197_111 rfl (by decide) (by omega) rfl ?_
                    refine zw_42 zr_197_114 ?_
                    exact zw_less (L := [(2, 69), (0, a0), (0, a1), (0, 0), (0, (i2 + 1)), (9, 0)]) ⟨Or.inr rfl, Or.inr rfl, Or.inr rfl, Or.inr rfl, Or.inr rfl, Or.inl rfl, trivial⟩ (ihlp5_3 (0) ((i2 + 1))  (by omega) (by omega) (by omega) (by omega)  (by omega))
                  · intro h50; omega
              · intro h51
                refine zw_7 zr_197_69 rfl ?_
                refine zw_4 zr_197_70 rfl ?_
                refine zw_push zr_197_72 ?_
                refine zw_C zr_197_73 (Or.inl rfl) zm_144 rfl rfl ⟨Nat.le_of_ble_eq_true rfl, Nat.le_of_ble_eq_true rfl, Nat.le_of_ble_eq_true rfl, rfl, by decide⟩ (by omega) (P := (fun v m' => zW E (d) 197 76 [(2, 69), (0, a0), (0, a1), (0, i1), (0, i2), (9, 0)] (if v.1 = 9 then [] else v :: []) m' Q)) ?_ (fun _ _ h => h)
                generalize hQ1 : (fun v m' => zW E (d) 197 76 [(2, 69), (0, a0), (0, a1), (0, i1), (0, i2), (9, 0)] (if v.1 = 9 then [] else v :: []) m' Q) = Q1
                show zW E (d - 1) 144 0 [(2, 69), (0, i2), (0, 3)] [] m0 Q1
                refine zw_7 zr_144_0 rfl ?_
                refine zw_46r (s := 70) zr_144_1 rfl rfl rfl rfl ?_
                refine zw_push zr_144_4 ?_
                refine zw_push zr_144_6 ?_
                refine zw_3 zr_144_8 rfl ?_
                refine zw_18 zr_144_9 (by omega) ?_
                refine zw_16 zr_144_10 (by omega) ?_
                refine zw_3 zr_144_11 rfl ?_
                refine zw_16 zr_144_12 (by omega) ?_
                refine zw_48 (c := 70) (len := 826) zr_144_13 rfl rfl (by omega) (by omega) ?_
                intro x52 ex52
                have bx52 := ib_70_m3 hI0 (k := (((90 + (6 * i2)) + 3)).toNat) (by omega)
                rw [← ex52] at bx52
                refine zw_R zr_144_14 (by decide) zm_144 (v := (0, x52)) rfl ?_
                rw [← hQ1]
                show zW E (d) 197 76 [(2, 69), (0, a0), (0, a1), (0, i1), (0, i2), (9, 0)] [(0, x52)] m0 Q
                refine zw_40_4 zr_197_76 ?_ ?_
                · intro h53
                  refine zw_push zr_197_83 ?_
                  refine zw_10 (L' := [(2, 69), (0, a0), (0, a1), (0, i1), (0, i2), (0, 0)]) zr_197_84 (Nat.le_of_ble_eq_true rfl) rfl ?_
                  refine zw_3 zr_197_86 rfl ?_
                  refine zw_40_4 zr_197_87 ?_ ?_
                  · intro h54
                    refine zw_push zr_197_105 ?_
                    refine zw_42 zr_197_106 ?_
                    refine zw_9 (L' := [(2, 69), (0, a0), (0, a1), (0, 1), (0, i2), (0, 0)]) zr_197_110 (Nat.le_of_ble_eq_true rfl) rfl ?_
                    refine zw_15 (c := 1) (L' := [(2, 69), (0, a0), (0, a1), (0, 1), (0, (i2 + 1)), (0, 0)]) zr_197_111 rfl (by decide) (by omega) rfl ?_
                    refine zw_42 zr_197_114 ?_
                    exact zw_less (L := [(2, 69), (0, a0), (0, a1), (0, 1), (0, (i2 + 1)), (9, 0)]) ⟨Or.inr rfl, Or.inr rfl, Or.inr rfl, Or.inr rfl, Or.inr rfl, Or.inl rfl, trivial⟩ (ihlp5_3 (1) ((i2 + 1))  (by omega) (by omega) (by omega) (by omega)  (by omega))
                  · intro h55
                    refine zw_4 zr_197_90 rfl ?_
                    refine zw_40_1 zr_197_92 ?_ ?_
                    · intro h56
                      refine zw_push zr_197_109 ?_
                      refine zw_9 (L' := [(2, 69), (0, a0), (0, a1), (0, 0), (0, i2), (0, 0)]) zr_197_110 (Nat.le_of_ble_eq_true rfl) rfl ?_
                      refine zw_15 (c := 1) (L' := [(2, 69), (0, a0), (0, a1), (0, 0), (0, (i2 + 1)), (0, 0)]) zr_197_111 rfl (by decide) (by omega) rfl ?_
                      refine zw_42 zr_197_114 ?_
                      exact zw_less (L := [(2, 69), (0, a0), (0, a1), (0, 0), (0, (i2 + 1)), (9, 0)]) ⟨Or.inr rfl, Or.inr rfl, Or.inr rfl, Or.inr rfl, Or.inr rfl, Or.inl rfl, trivial⟩ (ihlp5_3 (0) ((i2 + 1))  (by omega) (by omega) (by omega) (by omega)  (by omega))
                    · intro h57; omega
                · intro h58
                  refine zw_push zr_197_79 ?_
                  refine zw_42 zr_197_80 ?_
                  refine zw_10 (L' := [(2, 69), (0, a0), (0, a1), (0, i1), (0, i2), (0, 1)]) zr_197_84 (Nat.le_of_ble_eq_true rfl) rfl ?_
                  refine zw_3 zr_197_86 rfl ?_
                  refine zw_40_4 zr_197_87 ?_ ?_
                  · intro h59
                    refine zw_push zr_197_105 ?_
                    refine zw_42 zr_197_106 ?_
                    refine zw_9 (L' := [(2, 69), (0, a0), (0, a1), (0, 1), (0, i2), (0, 1)]) zr_197_110 (Nat.le_of_ble_eq_true rfl) rfl ?_
                    refine zw_15 (c := 1) (L' := [(2, 69), (0, a0), (0, a1), (0, 1), (0, (i2 + 1)), (0, 1)]) zr_197_111 rfl (by decide) (by omega) rfl ?_
                    refine zw_42 zr_197_114 ?_
                    exact zw_less (L := [(2, 69), (0, a0), (0, a1), (0, 1), (0, (i2 + 1)), (9, 0)]) ⟨Or.inr rfl, Or.inr rfl, Or.inr rfl, Or.inr rfl, Or.inr rfl, Or.inl rfl, trivial⟩ (ihlp5_3 (1) ((i2 + 1))  (by omega) (by omega) (by omega) (by omega)  (by omega))
                  · intro h60
                    refine zw_4 zr_197_90 rfl ?_
                    refine zw_40_1 zr_197_92 ?_ ?_
                    · intro h61; omega
                    · intro h62
                      refine zw_7 zr_197_95 rfl ?_
                      refine zw_4 zr_197_96 rfl ?_
                      refine zw_push zr_197_98 ?_
                      refine zw_C zr_197_99 (Or.inl rfl) zm_144 rfl rfl ⟨Nat.le_of_ble_eq_true rfl, Nat.le_of_ble_eq_true rfl, Nat.le_of_ble_eq_true rfl, rfl, by decide⟩ (by omega) (P := (fun v m' => zW E (d) 197 102 [(2, 69), (0, a0), (0, a1), (0, i1), (0, i2), (0, 1)] (if v.1 = 9 then [] else v :: []) m' Q)) ?_ (fun _ _ h => h)
                      generalize hQ1 : (fun v m' => zW E (d) 197 102 [(2, 69), (0, a0), (0, a1), (0, i1), (0, i2), (0, 1)] (if v.1 = 9 then [] else v :: []) m' Q) = Q1
                      show zW E (d - 1) 144 0 [(2, 69), (0, i2), (0, 4)] [] m0 Q1
                      refine zw_7 zr_144_0 rfl ?_
                      refine zw_46r (s := 70) zr_144_1 rfl rfl rfl rfl ?_
                      refine zw_push zr_144_4 ?_
                      refine zw_push zr_144_6 ?_
                      refine zw_3 zr_144_8 rfl ?_
                      refine zw_18 zr_144_9 (by omega) ?_
                      refine zw_16 zr_144_10 (by omega) ?_
                      refine zw_3 zr_144_11 rfl ?_
                      refine zw_16 zr_144_12 (by omega) ?_
                      refine zw_48 (c := 70) (len := 826) zr_144_13 rfl rfl (by omega) (by omega) ?_
                      intro x63 ex63
                      have bx63 := ib_70_m4 hI0 (k := (((90 + (6 * i2)) + 4)).toNat) (by omega)
                      rw [← ex63] at bx63
                      refine zw_R zr_144_14 (by decide) zm_144 (v := (0, x63)) rfl ?_
                      rw [← hQ1]
                      show zW E (d) 197 102 [(2, 69), (0, a0), (0, a1), (0, i1), (0, i2), (0, 1)] [(0, x63)] m0 Q
                      refine zw_40_4 zr_197_102 ?_ ?_
                      · intro h64
                        refine zw_push zr_197_109 ?_
                        refine zw_9 (L' := [(2, 69), (0, a0), (0, a1), (0, 0), (0, i2), (0, 1)]) zr_197_110 (Nat.le_of_ble_eq_true rfl) rfl ?_
                        refine zw_15 (c := 1) (L' := [(2, 69), (0, a0), (0, a1), (0, 0), (0, (i2 + 1)), (0, 1)]) zr_197_111 rfl (by decide) (by omega) rfl ?_
                        refine zw_42 zr_197_114 ?_
                        exact zw_less (L := [(2, 69), (0, a0), (0, a1), (0, 0), (0, (i2 + 1)), (9, 0)]) ⟨Or.inr rfl, Or.inr rfl, Or.inr rfl, Or.inr rfl, Or.inr rfl, Or.inl rfl, trivial⟩ (ihlp5_3 (0) ((i2 + 1))  (by omega) (by omega) (by omega) (by omega)  (by omega))
                      · intro h65
                        refine zw_push zr_197_105 ?_
                        refine zw_42 zr_197_106 ?_
                        refine zw_9 (L' := [(2, 69), (0, a0), (0, a1), (0, 1), (0, i2), (0, 1)]) zr_197_110 (Nat.le_of_ble_eq_true rfl) rfl ?_
                        refine zw_15 (c := 1) (L' := [(2, 69), (0, a0), (0, a1), (0, 1), (0, (i2 + 1)), (0, 1)]) zr_197_111 rfl (by decide) (by omega) rfl ?_
                        refine zw_42 zr_197_114 ?_
                        exact zw_less (L := [(2, 69), (0, a0), (0, a1), (0, 1), (0, (i2 + 1)), (9, 0)]) ⟨Or.inr rfl, Or.inr rfl, Or.inr rfl, Or.inr rfl, Or.inr rfl, Or.inl rfl, trivial⟩ (ihlp5_3 (1) ((i2 + 1))  (by omega) (by omega) (by omega) (by omega)  (by omega))
          · intro h66
            refine zw_7 zr_197_36 rfl ?_
            refine zw_4 zr_197_37 rfl ?_
            refine zw_push zr_197_39 ?_
            refine zw_C zr_197_40 (Or.inl rfl) zm_144 rfl rfl ⟨Nat.le_of_ble_eq_true rfl, Nat.le_of_ble_eq_true rfl, Nat.le_of_ble_eq_true rfl, rfl, by decide⟩ (by omega) (P := (fun v m' => zW E (d) 197 43 [(2, 69), (0, a0), (0, a1), (0, i1), (0, i2), (9, 0)] (if v.1 = 9 then [] else v :: []) m' Q)) ?_ (fun _ _ h => h)
            generalize hQ1 : (fun v m' => zW E (d) 197 43 [(2, 69), (0, a0), (0, a1), (0, i1), (0, i2), (9, 0)] (if v.1 = 9 then [] else v :: []) m' Q) = Q1
            show zW E (d - 1) 144 0 [(2, 69), (0, i2), (0, 3)] [] m0 Q1
            refine zw_7 zr_144_0 rfl ?_
            refine zw_46r (s := 70) zr_144_1 rfl rfl rfl rfl ?_
            refine zw_push zr_144_4 ?_
            refine zw_push zr_144_6 ?_
            refine zw_3 zr_144_8 rfl ?_
            refine zw_18 zr_144_9 (by omega) ?_
            refine zw_16 zr_144_10 (by omega) ?_
            refine zw_3 zr_144_11 rfl ?_
            refine zw_16 zr_144_12 (by omega) ?_
            refine zw_48 (c := 70) (len := 826) zr_144_13 rfl rfl (by omega) (by omega) ?_
            intro x67 ex67
            have bx67 := ib_70_m3 hI0 (k := (((90 + (6 * i2)) + 3)).toNat) (by omega)
            rw [← ex67] at bx67
            refine zw_R zr_144_14 (by decide) zm_144 (v := (0, x67)) rfl ?_
            rw [← hQ1]
            show zW E (d) 197 43 [(2, 69), (0, a0), (0, a1), (0, i1), (0, i2), (9, 0)] [(0, x67)] m0 Q
            refine zw_push zr_197_43 ?_
            refine zw_41_1 zr_197_44 ?_ ?_
            · intro h68
              refine zw_push zr_197_79 ?_
              refine zw_42 zr_197_80 ?_
              refine zw_10 (L' := [(2, 69), (0, a0), (0, a1), (0, i1), (0, i2), (0, 1)]) zr_197_84 (Nat.le_of_ble_eq_true rfl) rfl ?_
              refine zw_3 zr_197_86 rfl ?_
              refine zw_40_4 zr_197_87 ?_ ?_
              · intro h69
                refine zw_push zr_197_105 ?_
                refine zw_42 zr_197_106 ?_
                refine zw_9 (L' := [(2, 69), (0, a0), (0, a1), (0, 1), (0, i2), (0, 1)]) zr_197_110 (Nat.le_of_ble_eq_true rfl) rfl ?_
                refine zw_15 (c := 1) (L' := [(2, 69), (0, a0), (0, a1), (0, 1), (0, (i2 + 1)), (0, 1)]) zr_197_111 rfl (by decide) (by omega) rfl ?_
                refine zw_42 zr_197_114 ?_
                exact zw_less (L := [(2, 69), (0, a0), (0, a1), (0, 1), (0, (i2 + 1)), (9, 0)]) ⟨Or.inr rfl, Or.inr rfl, Or.inr rfl, Or.inr rfl, Or.inr rfl, Or.inl rfl, trivial⟩ (ihlp5_3 (1) ((i2 + 1))  (by omega) (by omega) (by omega) (by omega)  (by omega))
              · intro h70
                refine zw_4 zr_197_90 rfl ?_
                refine zw_40_1 zr_197_92 ?_ ?_
                · intro h71; omega
                · intro h72
                  refine zw_7 zr_197_95 rfl ?_
                  refine zw_4 zr_197_96 rfl ?_
                  refine zw_push zr_197_98 ?_
                  refine zw_C zr_197_99 (Or.inl rfl) zm_144 rfl rfl ⟨Nat.le_of_ble_eq_true rfl, Nat.le_of_ble_eq_true rfl, Nat.le_of_ble_eq_true rfl, rfl, by decide⟩ (by omega) (P := (fun v m' => zW E (d) 197 102 [(2, 69), (0, a0), (0, a1), (0, i1), (0, i2), (0, 1)] (if v.1 = 9 then [] else v :: []) m' Q)) ?_ (fun _ _ h => h)
                  generalize hQ1 : (fun v m' => zW E (d) 197 102 [(2, 69), (0, a0), (0, a1), (0, i1), (0, i2), (0, 1)] (if v.1 = 9 then [] else v :: []) m' Q) = Q1
                  show zW E (d - 1) 144 0 [(2, 69), (0, i2), (0, 4)] [] m0 Q1
                  refine zw_7 zr_144_0 rfl ?_
                  refine zw_46r (s := 70) zr_144_1 rfl rfl rfl rfl ?_
                  refine zw_push zr_144_4 ?_
                  refine zw_push zr_144_6 ?_
                  refine zw_3 zr_144_8 rfl ?_
                  refine zw_18 zr_144_9 (by omega) ?_
                  refine zw_16 zr_144_10 (by omega) ?_
                  refine zw_3 zr_144_11 rfl ?_
                  refine zw_16 zr_144_12 (by omega) ?_
                  refine zw_48 (c := 70) (len := 826) zr_144_13 rfl rfl (by omega) (by omega) ?_
                  intro x73 ex73
                  have bx73 := ib_70_m4 hI0 (k := (((90 + (6 * i2)) + 4)).toNat) (by omega)
                  rw [← ex73] at bx73
                  refine zw_R zr_144_14 (by decide) zm_144 (v := (0, x73)) rfl ?_
                  rw [← hQ1]
                  show zW E (d) 197 102 [(2, 69), (0, a0), (0, a1), (0, i1), (0, i2), (0, 1)] [(0, x73)] m0 Q
                  refine zw_40_4 zr_197_102 ?_ ?_
                  · intro h74
                    refine zw_push zr_197_109 ?_
                    refine zw_9 (L' := [(2, 69), (0, a0), (0, a1), (0, 0), (0, i2), (0, 1)]) zr_197_110 (Nat.le_of_ble_eq_true rfl) rfl ?_
                    refine zw_15 (c := 1) (L' := [(2, 69), (0, a0), (0, a1), (0, 0), (0, (i2 + 1)), (0, 1)]) zr_197_111 rfl (by decide) (by omega) rfl ?_
                    refine zw_42 zr_197_114 ?_
                    exact zw_less (L := [(2, 69), (0, a0), (0, a1), (0, 0), (0, (i2 + 1)), (9, 0)]) ⟨Or.inr rfl, Or.inr rfl, Or.inr rfl, Or.inr rfl, Or.inr rfl, Or.inl rfl, trivial⟩ (ihlp5_3 (0) ((i2 + 1))  (by omega) (by omega) (by omega) (by omega)  (by omega))
                  · intro h75
                    refine zw_push zr_197_105 ?_
                    refine zw_42 zr_197_106 ?_
                    refine zw_9 (L' := [(2, 69), (0, a0), (0, a1), (0, 1), (0, i2), (0, 1)]) zr_197_110 (Nat.le_of_ble_eq_true rfl) rfl ?_
                    refine zw_15 (c := 1) (L' := [(2, 69), (0, a0), (0, a1), (0, 1), (0, (i2 + 1)), (0, 1)]) zr_197_111 rfl (by decide) (by omega) rfl ?_
                    refine zw_42 zr_197_114 ?_
                    exact zw_less (L := [(2, 69), (0, a0), (0, a1), (0, 1), (0, (i2 + 1)), (9, 0)]) ⟨Or.inr rfl, Or.inr rfl, Or.inr rfl, Or.inr rfl, Or.inr rfl, Or.inl rfl, trivial⟩ (ihlp5_3 (1) ((i2 + 1))  (by omega) (by omega) (by omega) (by omega)  (by omega))
            · intro h76
              refine zw_7 zr_197_47 rfl ?_
              refine zw_4 zr_197_48 rfl ?_
              refine zw_push zr_197_50 ?_
              refine zw_C zr_197_51 (Or.inl rfl) zm_144 rfl rfl ⟨Nat.le_of_ble_eq_true rfl, Nat.le_of_ble_eq_true rfl, Nat.le_of_ble_eq_true rfl, rfl, by decide⟩ (by omega) (P := (fun v m' => zW E (d) 197 54 [(2, 69), (0, a0), (0, a1), (0, i1), (0, i2), (9, 0)] (if v.1 = 9 then [] else v :: []) m' Q)) ?_ (fun _ _ h => h)
              generalize hQ1 : (fun v m' => zW E (d) 197 54 [(2, 69), (0, a0), (0, a1), (0, i1), (0, i2), (9, 0)] (if v.1 = 9 then [] else v :: []) m' Q) = Q1
              show zW E (d - 1) 144 0 [(2, 69), (0, i2), (0, 1)] [] m0 Q1
              refine zw_7 zr_144_0 rfl ?_
              refine zw_46r (s := 70) zr_144_1 rfl rfl rfl rfl ?_
              refine zw_push zr_144_4 ?_
              refine zw_push zr_144_6 ?_
              refine zw_3 zr_144_8 rfl ?_
              refine zw_18 zr_144_9 (by omega) ?_
              refine zw_16 zr_144_10 (by omega) ?_
              refine zw_3 zr_144_11 rfl ?_
              refine zw_16 zr_144_12 (by omega) ?_
              refine zw_48k (c := 70) (len := 826) zr_144_13 rfl rfl (by omega) (by omega) rfl ex8.symm ?_
              refine zw_R zr_144_14 (by decide) zm_144 (v := (0, x8)) rfl ?_
              rw [← hQ1]
              show zW E (d) 197 54 [(2, 69), (0, a0), (0, a1), (0, i1), (0, i2), (9, 0)] [(0, x8)] m0 Q
              refine zw_3 zr_197_54 rfl ?_
              refine zw_41_4 zr_197_55 ?_ ?_
              · intro h77
                refine zw_push zr_197_83 ?_
                refine zw_10 (L' := [(2, 69), (0, a0), (0, a1), (0, i1), (0, i2), (0, 0)]) zr_197_84 (Nat.le_of_ble_eq_true rfl) rfl ?_
                refine zw_3 zr_197_86 rfl ?_
                refine zw_40_4 zr_197_87 ?_ ?_
                · intro h78
                  refine zw_push zr_197_105 ?_
                  refine zw_42 zr_197_106 ?_
                  refine zw_9 (L' := [(2, 69), (0, a0), (0, a1), (0, 1), (0, i2), (0, 0)]) zr_197_110 (Nat.le_of_ble_eq_true rfl) rfl ?_
                  refine zw_15 (c := 1) (L' := [(2, 69), (0, a0), (0, a1), (0, 1), (0, (i2 + 1)), (0, 0)]) zr_197_111 rfl (by decide) (by omega) rfl ?_
                  refine zw_42 zr_197_114 ?_
                  exact zw_less (L := [(2, 69), (0, a0), (0, a1), (0, 1), (0, (i2 + 1)), (9, 0)]) ⟨Or.inr rfl, Or.inr rfl, Or.inr rfl, Or.inr rfl, Or.inr rfl, Or.inl rfl, trivial⟩ (ihlp5_3 (1) ((i2 + 1))  (by omega) (by omega) (by omega) (by omega)  (by omega))
                · intro h79
                  refine zw_4 zr_197_90 rfl ?_
                  refine zw_40_1 zr_197_92 ?_ ?_
                  · intro h80
                    refine zw_push zr_197_109 ?_
                    refine zw_9 (L' := [(2, 69), (0, a0), (0, a1), (0, 0), (0, i2), (0, 0)]) zr_197_110 (Nat.le_of_ble_eq_true rfl) rfl ?_
                    refine zw_15 (c := 1) (L' := [(2, 69), (0, a0), (0, a1), (0, 0), (0, (i2 + 1)), (0, 0)]) zr_197_111 rfl (by decide) (by omega) rfl ?_
                    refine zw_42 zr_197_114 ?_
                    exact zw_less (L := [(2, 69), (0, a0), (0, a1), (0, 0), (0, (i2 + 1)), (9, 0)]) ⟨Or.inr rfl, Or.inr rfl, Or.inr rfl, Or.inr rfl, Or.inr rfl, Or.inl rfl, trivial⟩ (ihlp5_3 (0) ((i2 + 1))  (by omega) (by omega) (by omega) (by omega)  (by omega))
                  · intro h81; omega
              · intro h82
                refine zw_7 zr_197_58 rfl ?_
                refine zw_4 zr_197_59 rfl ?_
                refine zw_push zr_197_61 ?_
                refine zw_C zr_197_62 (Or.inl rfl) zm_144 rfl rfl ⟨Nat.le_of_ble_eq_true rfl, Nat.le_of_ble_eq_true rfl, Nat.le_of_ble_eq_true rfl, rfl, by decide⟩ (by omega) (P := (fun v m' => zW E (d) 197 65 [(2, 69), (0, a0), (0, a1), (0, i1), (0, i2), (9, 0)] (if v.1 = 9 then [] else v :: []) m' Q)) ?_ (fun _ _ h => h)
                generalize hQ1 : (fun v m' => zW E (d) 197 65 [(2, 69), (0, a0), (0, a1), (0, i1), (0, i2), (9, 0)] (if v.1 = 9 then [] else v :: []) m' Q) = Q1
                show zW E (d - 1) 144 0 [(2, 69), (0, i2), (0, 2)] [] m0 Q1
                refine zw_7 zr_144_0 rfl ?_
                refine zw_46r (s := 70) zr_144_1 rfl rfl rfl rfl ?_
                refine zw_push zr_144_4 ?_
                refine zw_push zr_144_6 ?_
                refine zw_3 zr_144_8 rfl ?_
                refine zw_18 zr_144_9 (by omega) ?_
                refine zw_16 zr_144_10 (by omega) ?_
                refine zw_3 zr_144_11 rfl ?_
                refine zw_16 zr_144_12 (by omega) ?_
                refine zw_48k (c := 70) (len := 826) zr_144_13 rfl rfl (by omega) (by omega) rfl ex38.symm ?_
                refine zw_R zr_144_14 (by decide) zm_144 (v := (0, x38)) rfl ?_
                rw [← hQ1]
                show zW E (d) 197 65 [(2, 69), (0, a0), (0, a1), (0, i1), (0, i2), (9, 0)] [(0, x38)] m0 Q
                refine zw_3 zr_197_65 rfl ?_
                refine zw_41_4 zr_197_66 ?_ ?_
                · intro h83
                  refine zw_push zr_197_83 ?_
                  refine zw_10 (L' := [(2, 69), (0, a0), (0, a1), (0, i1), (0, i2), (0, 0)]) zr_197_84 (Nat.le_of_ble_eq_true rfl) rfl ?_
                  refine zw_3 zr_197_86 rfl ?_
                  refine zw_40_4 zr_197_87 ?_ ?_
                  · intro h84
                    refine zw_push zr_197_105 ?_
                    refine zw_42 zr_197_106 ?_
                    refine zw_9 (L' := [(2, 69), (0, a0), (0, a1), (0, 1), (0, i2), (0, 0)]) zr_197_110 (Nat.le_of_ble_eq_true rfl) rfl ?_
                    refine zw_15 (c := 1) (L' := [(2, 69), (0, a0), (0, a1), (0, 1), (0, (i2 + 1)), (0, 0)]) zr_197_111 rfl (by decide) (by omega) rfl ?_
                    refine zw_42 zr_197_114 ?_
                    exact zw_less (L := [(2, 69), (0, a0), (0, a1), (0, 1), (0, (i2 + 1)), (9, 0)]) ⟨Or.inr rfl, Or.inr rfl, Or.inr rfl, Or.inr rfl, Or.inr rfl, Or.inl rfl, trivial⟩ (ihlp5_3 (1) ((i2 + 1))  (by omega) (by omega) (by omega) (by omega)  (by omega))
                  · intro h85
                    refine zw_4 zr_197_90 rfl ?_
                    refine zw_40_1 zr_197_92 ?_ ?_
                    · intro h86
                      refine zw_push zr_197_109 ?_
                      refine zw_9 (L' := [(2, 69), (0, a0), (0, a1), (0, 0), (0, i2), (0, 0)]) zr_197_110 (Nat.le_of_ble_eq_true rfl) rfl ?_
                      refine zw_15 (c := 1) (L' := [(2, 69), (0, a0), (0, a1), (0, 0), (0, (i2 + 1)), (0, 0)]) zr_197_111 rfl (by decide) (by omega) rfl ?_
                      refine zw_42 zr_197_114 ?_
                      exact zw_less (L := [(2, 69), (0, a0), (0, a1), (0, 0), (0, (i2 + 1)), (9, 0)]) ⟨Or.inr rfl, Or.inr rfl, Or.inr rfl, Or.inr rfl, Or.inr rfl, Or.inl rfl, trivial⟩ (ihlp5_3 (0) ((i2 + 1))  (by omega) (by omega) (by omega) (by omega)  (by omega))
                    · intro h87; omega
                · intro h88
                  refine zw_7 zr_197_69 rfl ?_
                  refine zw_4 zr_197_70 rfl ?_
                  refine zw_push zr_197_72 ?_
                  refine zw_C zr_197_73 (Or.inl rfl) zm_144 rfl rfl ⟨Nat.le_of_ble_eq_true rfl, Nat.le_of_ble_eq_true rfl, Nat.le_of_ble_eq_true rfl, rfl, by decide⟩ (by omega) (P := (fun v m' => zW E (d) 197 76 [(2, 69), (0, a0), (0, a1), (0, i1), (0, i2), (9, 0)] (if v.1 = 9 then [] else v :: []) m' Q)) ?_ (fun _ _ h => h)
                  generalize hQ1 : (fun v m' => zW E (d) 197 76 [(2, 69), (0, a0), (0, a1), (0, i1), (0, i2), (9, 0)] (if v.1 = 9 then [] else v :: []) m' Q) = Q1
                  show zW E (d - 1) 144 0 [(2, 69), (0, i2), (0, 3)] [] m0 Q1
                  refine zw_7 zr_144_0 rfl ?_
                  refine zw_46r (s := 70) zr_144_1 rfl rfl rfl rfl ?_
                  refine zw_push zr_144_4 ?_
                  refine zw_push zr_144_6 ?_
                  refine zw_3 zr_144_8 rfl ?_
                  refine zw_18 zr_144_9 (by omega) ?_
                  refine zw_16 zr_144_10 (by omega) ?_
                  refine zw_3 zr_144_11 rfl ?_
                  refine zw_16 zr_144_12 (by omega) ?_
                  refine zw_48k (c := 70) (len := 826) zr_144_13 rfl rfl (by omega) (by omega) rfl ex67.symm ?_
                  refine zw_R zr_144_14 (by decide) zm_144 (v := (0, x67)) rfl ?_
                  rw [← hQ1]
                  show zW E (d) 197 76 [(2, 69), (0, a0), (0, a1), (0, i1), (0, i2), (9, 0)] [(0, x67)] m0 Q
                  refine zw_40_4 zr_197_76 ?_ ?_
                  · intro h89
                    refine zw_push zr_197_83 ?_
                    refine zw_10 (L' := [(2, 69), (0, a0), (0, a1), (0, i1), (0, i2), (0, 0)]) zr_197_84 (Nat.le_of_ble_eq_true rfl) rfl ?_
                    refine zw_3 zr_197_86 rfl ?_
                    refine zw_40_4 zr_197_87 ?_ ?_
                    · intro h90
                      refine zw_push zr_197_105 ?_
                      refine zw_42 zr_197_106 ?_
                      refine zw_9 (L' := [(2, 69), (0, a0), (0, a1), (0, 1), (0, i2), (0, 0)]) zr_197_110 (Nat.le_of_ble_eq_true rfl) rfl ?_
                      refine zw_15 (c := 1) (L' := [(2, 69), (0, a0), (0, a1), (0, 1), (0, (i2 + 1)), (0, 0)]) zr_197_111 rfl (by decide) (by omega) rfl ?_
                      refine zw_42 zr_197_114 ?_
                      exact zw_less (L := [(2, 69), (0, a0), (0, a1), (0, 1), (0, (i2 + 1)), (9, 0)]) ⟨Or.inr rfl, Or.inr rfl, Or.inr rfl, Or.inr rfl, Or.inr rfl, Or.inl rfl, trivial⟩ (ihlp5_3 (1) ((i2 + 1))  (by omega) (by omega) (by omega) (by omega)  (by omega))
                    · intro h91
                      refine zw_4 zr_197_90 rfl ?_
                      refine zw_40_1 zr_197_92 ?_ ?_
                      · intro h92
                        refine zw_push zr_197_109 ?_
                        refine zw_9 (L' := [(2, 69), (0, a0), (0, a1), (0, 0), (0, i2), (0, 0)]) zr_197_110 (Nat.le_of_ble_eq_true rfl) rfl ?_
                        refine zw_15 (c := 1) (L' := [(2, 69), (0, a0), (0, a1), (0, 0), (0, (i2 + 1)), (0, 0)]) zr_197_111 rfl (by decide) (by omega) rfl ?_
                        refine zw_42 zr_197_114 ?_
                        exact zw_less (L := [(2, 69), (0, a0), (0, a1), (0, 0), (0, (i2 + 1)), (9, 0)]) ⟨Or.inr rfl, Or.inr rfl, Or.inr rfl, Or.inr rfl, Or.inr rfl, Or.inl rfl, trivial⟩ (ihlp5_3 (0) ((i2 + 1))  (by omega) (by omega) (by omega) (by omega)  (by omega))
                      · intro h93; omega
                  · intro h94
                    refine zw_push zr_197_79 ?_
                    refine zw_42 zr_197_80 ?_
                    refine zw_10 (L' := [(2, 69), (0, a0), (0, a1), (0, i1), (0, i2), (0, 1)]) zr_197_84 (Nat.le_of_ble_eq_true rfl) rfl ?_
                    refine zw_3 zr_197_86 rfl ?_
                    refine zw_40_4 zr_197_87 ?_ ?_
                    · intro h95
                      refine zw_push zr_197_105 ?_
                      refine zw_42 zr_197_106 ?_
                      refine zw_9 (L' := [(2, 69), (0, a0), (0, a1), (0, 1), (0, i2), (0, 1)]) zr_197_110 (Nat.le_of_ble_eq_true rfl) rfl ?_
                      refine zw_15 (c := 1) (L' := [(2, 69), (0, a0), (0, a1), (0, 1), (0, (i2 + 1)), (0, 1)]) zr_197_111 rfl (by decide) (by omega) rfl ?_
                      refine zw_42 zr_197_114 ?_
                      exact zw_less (L := [(2, 69), (0, a0), (0, a1), (0, 1), (0, (i2 + 1)), (9, 0)]) ⟨Or.inr rfl, Or.inr rfl, Or.inr rfl, Or.inr rfl, Or.inr rfl, Or.inl rfl, trivial⟩ (ihlp5_3 (1) ((i2 + 1))  (by omega) (by omega) (by omega) (by omega)  (by omega))
                    · intro h96
                      refine zw_4 zr_197_90 rfl ?_
                      refine zw_40_1 zr_197_92 ?_ ?_
                      · intro h97; omega
                      · intro h98
                        refine zw_7 zr_197_95 rfl ?_
                        refine zw_4 zr_197_96 rfl ?_
                        refine zw_push zr_197_98 ?_
                        refine zw_C zr_197_99 (Or.inl rfl) zm_144 rfl rfl ⟨Nat.le_of_ble_eq_true rfl, Nat.le_of_ble_eq_true rfl, Nat.le_of_ble_eq_true rfl, rfl, by decide⟩ (by omega) (P := (fun v m' => zW E (d) 197 102 [(2, 69), (0, a0), (0, a1), (0, i1), (0, i2), (0, 1)] (if v.1 = 9 then [] else v :: []) m' Q)) ?_ (fun _ _ h => h)
                        generalize hQ1 : (fun v m' => zW E (d) 197 102 [(2, 69), (0, a0), (0, a1), (0, i1), (0, i2), (0, 1)] (if v.1 = 9 then [] else v :: []) m' Q) = Q1
                        show zW E (d - 1) 144 0 [(2, 69), (0, i2), (0, 4)] [] m0 Q1
                        refine zw_7 zr_144_0 rfl ?_
                        refine zw_46r (s := 70) zr_144_1 rfl rfl rfl rfl ?_
                        refine zw_push zr_144_4 ?_
                        refine zw_push zr_144_6 ?_
                        refine zw_3 zr_144_8 rfl ?_
                        refine zw_18 zr_144_9 (by omega) ?_
                        refine zw_16 zr_144_10 (by omega) ?_
                        refine zw_3 zr_144_11 rfl ?_
                        refine zw_16 zr_144_12 (by omega) ?_
                        refine zw_48 (c := 70) (len := 826) zr_144_13 rfl rfl (by omega) (by omega) ?_
                        intro x99 ex99
                        have bx99 := ib_70_m4 hI0 (k := (((90 + (6 * i2)) + 4)).toNat) (by omega)
                        rw [← ex99] at bx99
                        refine zw_R zr_144_14 (by decide) zm_144 (v := (0, x99)) rfl ?_
                        rw [← hQ1]
                        show zW E (d) 197 102 [(2, 69), (0, a0), (0, a1), (0, i1), (0, i2), (0, 1)] [(0, x99)] m0 Q
                        refine zw_40_4 zr_197_102 ?_ ?_
                        · intro h100
                          refine zw_push zr_197_109 ?_
                          refine zw_9 (L' := [(2, 69), (0, a0), (0, a1), (0, 0), (0, i2), (0, 1)]) zr_197_110 (Nat.le_of_ble_eq_true rfl) rfl ?_
                          refine zw_15 (c := 1) (L' := [(2, 69), (0, a0), (0, a1), (0, 0), (0, (i2 + 1)), (0, 1)]) zr_197_111 rfl (by decide) (by omega) rfl ?_
                          refine zw_42 zr_197_114 ?_
                          exact zw_less (L := [(2, 69), (0, a0), (0, a1), (0, 0), (0, (i2 + 1)), (9, 0)]) ⟨Or.inr rfl, Or.inr rfl, Or.inr rfl, Or.inr rfl, Or.inr rfl, Or.inl rfl, trivial⟩ (ihlp5_3 (0) ((i2 + 1))  (by omega) (by omega) (by omega) (by omega)  (by omega))
                        · intro h101
                          refine zw_push zr_197_105 ?_
                          refine zw_42 zr_197_106 ?_
                          refine zw_9 (L' := [(2, 69), (0, a0), (0, a1), (0, 1), (0, i2), (0, 1)]) zr_197_110 (Nat.le_of_ble_eq_true rfl) rfl ?_
                          refine zw_15 (c := 1) (L' := [(2, 69), (0, a0), (0, a1), (0, 1), (0, (i2 + 1)), (0, 1)]) zr_197_111 rfl (by decide) (by omega) rfl ?_
                          refine zw_42 zr_197_114 ?_
                          exact zw_less (L := [(2, 69), (0, a0), (0, a1), (0, 1), (0, (i2 + 1)), (9, 0)]) ⟨Or.inr rfl, Or.inr rfl, Or.inr rfl, Or.inr rfl, Or.inr rfl, Or.inl rfl, trivial⟩ (ihlp5_3 (1) ((i2 + 1))  (by omega) (by omega) (by omega) (by omega)  (by omega))
  exact lp5_3 _ (0) (0)  (by omega) (by omega) (by omega) (by omega)  (Nat.lt_succ_self _)

set_option maxHeartbeats 8000000 in
theorem th_198 {E : zE} {d : Nat} {m0 : zM} (hd : 3 ≤ d) (hI0 : zInv m0) : zC E d 198 [(2, 69)] m0 (fun v m' => ∃ r : Int, v = (0, r) ∧ (-2147483648) ≤ r ∧ r ≤ 2147483647 ∧ m0 = m') := by
  generalize hQ : (fun (v : zV) (m' : zM) => ∃ r : Int, v = (0, r) ∧ (-2147483648) ≤ r ∧ r ≤ 2147483647 ∧ m0 = m') = Q
  show zW E d 198 0 [(2, 69), (9, 0), (9, 0), (9, 0), (9, 0)] [] m0 Q
  refine zw_push zr_198_0 ?_
  refine zw_9 (L' := [(2, 69), (0, 0), (9, 0), (9, 0), (9, 0)]) zr_198_1 (Nat.le_of_ble_eq_true rfl) rfl ?_
  refine zw_push zr_198_2 ?_
  refine zw_9 (L' := [(2, 69), (0, 0), (0, 0), (9, 0), (9, 0)]) zr_198_3 (Nat.le_of_ble_eq_true rfl) rfl ?_
  have lp4_3 : ∀ (nlp4_3 : Nat) (i1 i2 : Int), (-2147483648) ≤ i1 → i1 ≤ 2147483647 → 0 ≤ i2 → i2 ≤ 10 → (10 - i2).toNat < nlp4_3 → zW E (d) 198 4 [(2, 69), (0, i1), (0, i2), (9, 0), (9, 0)] [] m0 Q := by
    intro nlp4_3
    induction nlp4_3 with
    | zero =>
      intros
      exact absurd (by assumption : _ < 0) (Nat.not_lt_zero _)
    | succ nlp4_3 ihlp4_3 =>
      intro i1 i2 li1 ui1 li2 ui2 hmlp4_3
      refine zw_3 zr_198_4 rfl ?_
      refine zw_7 zr_198_5 rfl ?_
      refine zw_C zr_198_6 (Or.inl rfl) zm_141 rfl rfl ⟨Nat.le_of_ble_eq_true rfl, Nat.le_of_ble_eq_true rfl, Nat.le_of_ble_eq_true rfl, rfl, by decide⟩ (by omega) (P := (fun v m' => zW E (d) 198 9 [(2, 69), (0, i1), (0, i2), (9, 0), (9, 0)] (if v.1 = 9 then [(0, i2)] else v :: [(0, i2)]) m' Q)) ?_ (fun _ _ h => h)
      generalize hQ1 : (fun v m' => zW E (d) 198 9 [(2, 69), (0, i1), (0, i2), (9, 0), (9, 0)] (if v.1 = 9 then [(0, i2)] else v :: [(0, i2)]) m' Q) = Q1
      show zW E (d - 1) 141 0 [(2, 69)] [] m0 Q1
      refine zw_7 zr_141_0 rfl ?_
      refine zw_46r (s := 70) zr_141_1 rfl rfl rfl rfl ?_
      refine zw_push zr_141_4 ?_
      obtain ⟨f5, ef5⟩ : ∃ v, m0 70 822 = v := ⟨_, rfl⟩
      have bf5 : 0 ≤ m0 70 822 ∧ m0 70 822 ≤ 10 := ib_70_players hI0 (by omega)
      rw [ef5] at bf5
      refine zw_48k (c := 70) (len := 826) zr_141_7 rfl rfl (by omega) (by omega) (show (822 : Int).toNat = 822 by omega) ef5 ?_
      refine zw_R zr_141_8 (by decide) zm_141 (v := (0, f5)) rfl ?_
      rw [← hQ1]
      show zW E (d) 198 9 [(2, 69), (0, i1), (0, i2), (9, 0), (9, 0)] [(0, f5), (0, i2)] m0 Q
      refine zw_41_3 zr_198_9 ?_ ?_
      · intro h6
        refine zw_3 zr_198_99 rfl ?_
        refine zw_R zr_198_100 (by decide) zm_198 (v := (0, i1)) rfl ?_
        rw [← hQ]; exact ⟨_, rfl, by omega, by omega, rfl⟩
      · intro h7
        refine zw_3 zr_198_12 rfl ?_
        refine zw_push zr_198_13 ?_
        refine zw_16 zr_198_14 (by omega) ?_
        refine zw_9 (L' := [(2, 69), (0, i1), (0, i2), (0, (i2 + 1)), (9, 0)]) zr_198_15 (Nat.le_of_ble_eq_true rfl) rfl ?_
        have lp16_10 : ∀ (nlp16_10 : Nat) (i8 i9 : Int), (-2147483648) ≤ i8 → i8 ≤ 2147483647 → 1 ≤ i9 → i9 ≤ 10 → (10 - i9).toNat < nlp16_10 → zW E (d) 198 16 [(2, 69), (0, i8), (0, i2), (0, i9), (9, 0)] [] m0 Q := by
          intro nlp16_10
          induction nlp16_10 with
          | zero =>
            intros
            exact absurd (by assumption : _ < 0) (Nat.not_lt_zero _)
          | succ nlp16_10 ihlp16_10 =>
            intro i8 i9 li8 ui8 li9 ui9 hmlp16_10
            refine zw_3 zr_198_16 rfl ?_
            refine zw_7 zr_198_17 rfl ?_
            refine zw_C zr_198_18 (Or.inl rfl) zm_141 rfl rfl ⟨Nat.le_of_ble_eq_true rfl, Nat.le_of_ble_eq_true rfl, Nat.le_of_ble_eq_true rfl, rfl, by decide⟩ (by omega) (P := (fun v m' => zW E (d) 198 21 [(2, 69), (0, i8), (0, i2), (0, i9), (9, 0)] (if v.1 = 9 then [(0, i9)] else v :: [(0, i9)]) m' Q)) ?_ (fun _ _ h => h)
            generalize hQ1 : (fun v m' => zW E (d) 198 21 [(2, 69), (0, i8), (0, i2), (0, i9), (9, 0)] (if v.1 = 9 then [(0, i9)] else v :: [(0, i9)]) m' Q) = Q1
            show zW E (d - 1) 141 0 [(2, 69)] [] m0 Q1
            refine zw_7 zr_141_0 rfl ?_
            refine zw_46r (s := 70) zr_141_1 rfl rfl rfl rfl ?_
            refine zw_push zr_141_4 ?_
            refine zw_48k (c := 70) (len := 826) zr_141_7 rfl rfl (by omega) (by omega) (show (822 : Int).toNat = 822 by omega) ef5 ?_
            refine zw_R zr_141_8 (by decide) zm_141 (v := (0, f5)) rfl ?_
            rw [← hQ1]
            show zW E (d) 198 21 [(2, 69), (0, i8), (0, i2), (0, i9), (9, 0)] [(0, f5), (0, i9)] m0 Q
            refine zw_41_3 zr_198_21 ?_ ?_
            · intro h12
              refine zw_15 (c := 1) (L' := [(2, 69), (0, i8), (0, (i2 + 1)), (0, i9), (9, 0)]) zr_198_93 rfl (by decide) (by omega) rfl ?_
              refine zw_42 zr_198_96 ?_
              exact zw_less (L := [(2, 69), (0, i8), (0, (i2 + 1)), (9, 0), (9, 0)]) ⟨Or.inr rfl, Or.inr rfl, Or.inr rfl, Or.inl rfl, Or.inl rfl, trivial⟩ (ihlp4_3 (i8) ((i2 + 1))  (by omega) (by omega) (by omega) (by omega)  (by omega))
            · intro h13
              refine zw_3 zr_198_24 rfl ?_
              refine zw_push zr_198_25 ?_
              refine zw_16 zr_198_26 (by omega) ?_
              refine zw_10 (L' := [(2, 69), (0, i8), (0, i2), (0, i9), (0, (i2 + 1))]) zr_198_27 (Nat.le_of_ble_eq_true rfl) rfl ?_
              have lp29_16 : ∀ (nlp29_16 : Nat) (i14 i15 : Int), (-2147483648) ≤ i14 → i14 ≤ 2147483647 → 1 ≤ i15 → i15 ≤ 10 → (10 - i15).toNat < nlp29_16 → zW E (d) 198 29 [(2, 69), (0, i14), (0, i2), (0, i9), (0, i15)] [] m0 Q := by
                intro nlp29_16
                induction nlp29_16 with
                | zero =>
                  intros
                  exact absurd (by assumption : _ < 0) (Nat.not_lt_zero _)
                | succ nlp29_16 ihlp29_16 =>
                  intro i14 i15 li14 ui14 li15 ui15 hmlp29_16
                  refine zw_4 zr_198_29 rfl ?_
                  refine zw_7 zr_198_31 rfl ?_
                  refine zw_C zr_198_32 (Or.inl rfl) zm_141 rfl rfl ⟨Nat.le_of_ble_eq_true rfl, Nat.le_of_ble_eq_true rfl, Nat.le_of_ble_eq_true rfl, rfl, by decide⟩ (by omega) (P := (fun v m' => zW E (d) 198 35 [(2, 69), (0, i14), (0, i2), (0, i9), (0, i15)] (if v.1 = 9 then [(0, i15)] else v :: [(0, i15)]) m' Q)) ?_ (fun _ _ h => h)
                  generalize hQ1 : (fun v m' => zW E (d) 198 35 [(2, 69), (0, i14), (0, i2), (0, i9), (0, i15)] (if v.1 = 9 then [(0, i15)] else v :: [(0, i15)]) m' Q) = Q1
                  show zW E (d - 1) 141 0 [(2, 69)] [] m0 Q1
                  refine zw_7 zr_141_0 rfl ?_
                  refine zw_46r (s := 70) zr_141_1 rfl rfl rfl rfl ?_
                  refine zw_push zr_141_4 ?_
                  refine zw_48k (c := 70) (len := 826) zr_141_7 rfl rfl (by omega) (by omega) (show (822 : Int).toNat = 822 by omega) ef5 ?_
                  refine zw_R zr_141_8 (by decide) zm_141 (v := (0, f5)) rfl ?_
                  rw [← hQ1]
                  show zW E (d) 198 35 [(2, 69), (0, i14), (0, i2), (0, i9), (0, i15)] [(0, f5), (0, i15)] m0 Q
                  refine zw_41_3 zr_198_35 ?_ ?_
                  · intro h18
                    refine zw_15 (c := 1) (L' := [(2, 69), (0, i14), (0, i2), (0, (i9 + 1)), (0, i15)]) zr_198_87 rfl (by decide) (by omega) rfl ?_
                    refine zw_42 zr_198_90 ?_
                    exact zw_less (L := [(2, 69), (0, i14), (0, i2), (0, (i9 + 1)), (9, 0)]) ⟨Or.inr rfl, Or.inr rfl, Or.inr rfl, Or.inr rfl, Or.inl rfl, trivial⟩ (ihlp16_10 (i14) ((i9 + 1))  (by omega) (by omega) (by omega) (by omega)  (by omega))
                  · intro h19
                    refine zw_3 zr_198_38 rfl ?_
                    refine zw_3 zr_198_39 rfl ?_
                    refine zw_4 zr_198_40 rfl ?_
                    refine zw_41_1 zr_198_42 ?_ ?_
                    · intro h20
                      refine zw_push zr_198_78 ?_
                      refine zw_16 zr_198_79 (by omega) ?_
                      refine zw_9 (L' := [(2, 69), (0, (i14 + 0)), (0, i2), (0, i9), (0, i15)]) zr_198_80 (Nat.le_of_ble_eq_true rfl) rfl ?_
                      refine zw_15 (c := 1) (L' := [(2, 69), (0, (i14 + 0)), (0, i2), (0, i9), (0, (i15 + 1))]) zr_198_81 rfl (by decide) (by omega) rfl ?_
                      refine zw_42 zr_198_84 ?_
                      exact zw_less (L := [(2, 69), (0, (i14 + 0)), (0, i2), (0, i9), (0, (i15 + 1))]) ⟨Or.inr rfl, Or.inr rfl, Or.inr rfl, Or.inr rfl, Or.inr rfl, trivial⟩ (ihlp29_16 ((i14 + 0)) ((i15 + 1))  (by omega) (by omega) (by omega) (by omega)  (by omega))
                    · intro h21
                      refine zw_7 zr_198_45 rfl ?_
                      refine zw_3 zr_198_46 rfl ?_
                      refine zw_3 zr_198_47 rfl ?_
                      refine zw_C zr_198_48 (Or.inl rfl) zm_197 rfl rfl ⟨Nat.le_of_ble_eq_true rfl, Nat.le_of_ble_eq_true rfl, Nat.le_of_ble_eq_true rfl, rfl, by decide⟩ (by omega) (th_197 (d := d - 1) (by omega) hI0 (a0 := i2) (a1 := i9)      (by omega) (by omega) ) ?_
                      rintro _ _ ⟨r22, rfl, hr22a, hr22b, rfl⟩
                      show zW E (d) 198 51 [(2, 69), (0, i14), (0, i2), (0, i9), (0, i15)] [(0, r22), (0, i14)] m0 Q
                      refine zw_40_1 zr_198_51 ?_ ?_
                      · intro h23
                        refine zw_push zr_198_78 ?_
                        refine zw_16 zr_198_79 (by omega) ?_
                        refine zw_9 (L' := [(2, 69), (0, (i14 + 0)), (0, i2), (0, i9), (0, i15)]) zr_198_80 (Nat.le_of_ble_eq_true rfl) rfl ?_
                        refine zw_15 (c := 1) (L' := [(2, 69), (0, (i14 + 0)), (0, i2), (0, i9), (0, (i15 + 1))]) zr_198_81 rfl (by decide) (by omega) rfl ?_
                        refine zw_42 zr_198_84 ?_
                        exact zw_less (L := [(2, 69), (0, (i14 + 0)), (0, i2), (0, i9), (0, (i15 + 1))]) ⟨Or.inr rfl, Or.inr rfl, Or.inr rfl, Or.inr rfl, Or.inr rfl, trivial⟩ (ihlp29_16 ((i14 + 0)) ((i15 + 1))  (by omega) (by omega) (by omega) (by omega)  (by omega))
                      · intro h24
                        refine zw_7 zr_198_54 rfl ?_
                        refine zw_3 zr_198_55 rfl ?_
                        refine zw_4 zr_198_56 rfl ?_
                        refine zw_C zr_198_58 (Or.inl rfl) zm_197 rfl rfl ⟨Nat.le_of_ble_eq_true rfl, Nat.le_of_ble_eq_true rfl, Nat.le_of_ble_eq_true rfl, rfl, by decide⟩ (by omega) (th_197 (d := d - 1) (by omega) hI0 (a0 := i9) (a1 := i15)      (by omega) (by omega) ) ?_
                        rintro _ _ ⟨r25, rfl, hr25a, hr25b, rfl⟩
                        show zW E (d) 198 61 [(2, 69), (0, i14), (0, i2), (0, i9), (0, i15)] [(0, r25), (0, i14)] m0 Q
                        refine zw_40_1 zr_198_61 ?_ ?_
                        · intro h26
                          refine zw_push zr_198_78 ?_
                          refine zw_16 zr_198_79 (by omega) ?_
                          refine zw_9 (L' := [(2, 69), (0, (i14 + 0)), (0, i2), (0, i9), (0, i15)]) zr_198_80 (Nat.le_of_ble_eq_true rfl) rfl ?_
                          refine zw_15 (c := 1) (L' := [(2, 69), (0, (i14 + 0)), (0, i2), (0, i9), (0, (i15 + 1))]) zr_198_81 rfl (by decide) (by omega) rfl ?_
                          refine zw_42 zr_198_84 ?_
                          exact zw_less (L := [(2, 69), (0, (i14 + 0)), (0, i2), (0, i9), (0, (i15 + 1))]) ⟨Or.inr rfl, Or.inr rfl, Or.inr rfl, Or.inr rfl, Or.inr rfl, trivial⟩ (ihlp29_16 ((i14 + 0)) ((i15 + 1))  (by omega) (by omega) (by omega) (by omega)  (by omega))
                        · intro h27
                          refine zw_7 zr_198_64 rfl ?_
                          refine zw_4 zr_198_65 rfl ?_
                          refine zw_3 zr_198_67 rfl ?_
                          refine zw_C zr_198_68 (Or.inl rfl) zm_197 rfl rfl ⟨Nat.le_of_ble_eq_true rfl, Nat.le_of_ble_eq_true rfl, Nat.le_of_ble_eq_true rfl, rfl, by decide⟩ (by omega) (th_197 (d := d - 1) (by omega) hI0 (a0 := i15) (a1 := i2)      (by omega) (by omega) ) ?_
                          rintro _ _ ⟨r28, rfl, hr28a, hr28b, rfl⟩
                          show zW E (d) 198 71 [(2, 69), (0, i14), (0, i2), (0, i9), (0, i15)] [(0, r28), (0, i14)] m0 Q
                          refine zw_40_1 zr_198_71 ?_ ?_
                          · intro h29
                            refine zw_push zr_198_78 ?_
                            refine zw_16 zr_198_79 (by omega) ?_
                            refine zw_9 (L' := [(2, 69), (0, (i14 + 0)), (0, i2), (0, i9), (0, i15)]) zr_198_80 (Nat.le_of_ble_eq_true rfl) rfl ?_
                            refine zw_15 (c := 1) (L' := [(2, 69), (0, (i14 + 0)), (0, i2), (0, i9), (0, (i15 + 1))]) zr_198_81 rfl (by decide) (by omega) rfl ?_
                            refine zw_42 zr_198_84 ?_
                            exact zw_less (L := [(2, 69), (0, (i14 + 0)), (0, i2), (0, i9), (0, (i15 + 1))]) ⟨Or.inr rfl, Or.inr rfl, Or.inr rfl, Or.inr rfl, Or.inr rfl, trivial⟩ (ihlp29_16 ((i14 + 0)) ((i15 + 1))  (by omega) (by omega) (by omega) (by omega)  (by omega))
                          · intro h30
                            refine zw_push zr_198_74 ?_
                            refine zw_42 zr_198_75 ?_
                            refine zw_16h zr_198_79 ?_
                            intro x31 hx31a hx31b
                            refine zw_9 (L' := [(2, 69), (0, x31), (0, i2), (0, i9), (0, i15)]) zr_198_80 (Nat.le_of_ble_eq_true rfl) rfl ?_
                            refine zw_15 (c := 1) (L' := [(2, 69), (0, x31), (0, i2), (0, i9), (0, (i15 + 1))]) zr_198_81 rfl (by decide) (by omega) rfl ?_
                            refine zw_42 zr_198_84 ?_
                            exact zw_less (L := [(2, 69), (0, x31), (0, i2), (0, i9), (0, (i15 + 1))]) ⟨Or.inr rfl, Or.inr rfl, Or.inr rfl, Or.inr rfl, Or.inr rfl, trivial⟩ (ihlp29_16 (x31) ((i15 + 1))  (by omega) (by omega) (by omega) (by omega)  (by omega))
              exact lp29_16 _ (i8) ((i2 + 1))  (by omega) (by omega) (by omega) (by omega)  (Nat.lt_succ_self _)
        exact lp16_10 _ (i1) ((i2 + 1))  (by omega) (by omega) (by omega) (by omega)  (Nat.lt_succ_self _)
  exact lp4_3 _ (0) (0)  (by omega) (by omega) (by omega) (by omega)  (Nat.lt_succ_self _)

abbrev W_4_68 : List (Nat × Nat) := [(68, 1000)]
set_option maxHeartbeats 8000000 in
theorem th_4_68 {E : zE} {d : Nat} {m0 : zM} {a0 : Int} (hd : 1 ≤ d) (hI0 : zInv m0) (ha0 : 0 ≤ a0 ∧ a0 ≤ 0) : zC E d 4 [(2, 68), (0, a0)] m0 (fun v m' => v = (9, 0) ∧ zInv m' ∧ zFr W_4_68 m0 m') := by
  have hF0 : zFr W_4_68 m0 m0 := zFr.rfl
  generalize hQ : (fun (v : zV) (m' : zM) => v = (9, 0) ∧ zInv m' ∧ zFr W_4_68 m0 m') = Q
  show zW E d 4 0 [(2, 68), (0, a0), (9, 0), (9, 0)] [] m0 Q
  refine zw_push zr_4_0 ?_
  refine zw_9 (L' := [(2, 68), (0, a0), (0, 0), (9, 0)]) zr_4_1 (Nat.le_of_ble_eq_true rfl) rfl ?_
  refine zw_7 zr_4_2 rfl ?_
  refine zw_101 (c := 68) (len := 11) zr_4_3 rfl rfl (by decide) ?_
  refine zw_9 (L' := [(2, 68), (0, a0), (0, 0), (0, 11)]) zr_4_4 (Nat.le_of_ble_eq_true rfl) rfl ?_
  have lp5_3 : ∀ (nlp5_3 : Nat) (i1 : Int) (m2 : zM), zInv m2 → zFr W_4_68 m0 m2 → 0 ≤ i1 → i1 ≤ 11 → (11 - i1).toNat < nlp5_3 → zW E (d) 4 5 [(2, 68), (0, a0), (0, i1), (0, 11)] [] m2 Q := by
    intro nlp5_3
    induction nlp5_3 with
    | zero =>
      intros
      exact absurd (by assumption : _ < 0) (Nat.not_lt_zero _)
    | succ nlp5_3 ihlp5_3 =>
      intro i1 m2 hIm2 hFm2 li1 ui1 hmlp5_3
      refine zw_3 zr_4_5 rfl ?_
      refine zw_3 zr_4_6 rfl ?_
      refine zw_41_3 zr_4_7 ?_ ?_
      · intro h5
        refine zw_R zr_4_20 (by decide) zm_4 (v := (9, 0)) rfl ?_
        rw [← hQ]; exact ⟨rfl, hIm2, hFm2⟩
      · intro h6
        refine zw_7 zr_4_10 rfl ?_
        refine zw_3 zr_4_11 rfl ?_
        refine zw_3 zr_4_12 rfl ?_
        refine zw_49 (c := 68) (len := 11) zr_4_13 rfl rfl (by omega) (by omega) ?_
        intro m7 em7
        have hIm7 : zInv m7 := by rw [em7]; exact hIm2.any (by omega) rfl (by decide) (by decide)
        have hFm7 : zFr W_4_68 m0 m7 := by rw [em7]; exact hFm2.any rfl
        clear em7
        refine zw_15 (c := 1) (L' := [(2, 68), (0, a0), (0, (i1 + 1)), (0, 11)]) zr_4_14 rfl (by decide) (by omega) rfl ?_
        refine zw_42 zr_4_17 ?_
        exact zw_less (L := [(2, 68), (0, a0), (0, (i1 + 1)), (0, 11)]) ⟨Or.inr rfl, Or.inr rfl, Or.inr rfl, Or.inr rfl, trivial⟩ (ihlp5_3 ((i1 + 1)) m7 hIm7 hFm7   (by omega) (by omega)  (by omega))
  exact lp5_3 _ (0) m0 hI0 hF0   (by omega) (by omega)  (Nat.lt_succ_self _)

abbrev W_94 : List (Nat × Nat) := [(68, 1000)]
set_option maxHeartbeats 8000000 in
theorem th_94 {E : zE} {d : Nat} {m0 : zM} (hd : 2 ≤ d) (hI0 : zInv m0) : zC E d 94 [(2, 63)] m0 (fun v m' => v = (9, 0) ∧ zInv m' ∧ zFr W_94 m0 m') := by
  have hF0 : zFr W_94 m0 m0 := zFr.rfl
  generalize hQ : (fun (v : zV) (m' : zM) => v = (9, 0) ∧ zInv m' ∧ zFr W_94 m0 m') = Q
  show zW E d 94 0 [(2, 63), (9, 0), (9, 0)] [] m0 Q
  refine zw_7 zr_94_0 rfl ?_
  refine zw_46r (s := 68) zr_94_1 rfl rfl rfl rfl ?_
  refine zw_push zr_94_4 ?_
  refine zw_C zr_94_5 (Or.inr rfl) zm_4 rfl rfl ⟨Nat.le_of_ble_eq_true rfl, Nat.le_of_ble_eq_true rfl, Nat.le_of_ble_eq_true rfl, rfl, by decide⟩ (by omega) (th_4_68 (d := d - 1) (by omega) hI0 (a0 := 0)      (by omega) ) ?_
  rintro _ m1 ⟨rfl, hIm1, gm1⟩
  have hFm1 : zFr W_94 m0 m1 := hF0.trans gm1 rfl
  show zW E (d) 94 8 [(2, 63), (9, 0), (9, 0)] [] m1 Q
  refine zw_7 zr_94_8 rfl ?_
  refine zw_46r (s := 1) zr_94_9 rfl rfl rfl rfl ?_
  obtain ⟨f2, ef2⟩ : ∃ v, m1 1 0 = v := ⟨_, rfl⟩
  have bf2 := ib_1_0 hIm1
  rw [ef2] at bf2
  refine zw_46i zr_94_12 ef2 rfl rfl rfl ?_
  refine zw_push zr_94_15 ?_
  refine zw_17 zr_94_16 (by omega) ?_
  refine zw_9 (L' := [(2, 63), (0, (f2 - 1)), (9, 0)]) zr_94_17 (Nat.le_of_ble_eq_true rfl) rfl ?_
  have lp18_5 : ∀ (nlp18_5 : Nat) (i3 : Int) (m4 : zM), zInv m4 → zFr W_94 m0 m4 → m4 1 0 = f2 → (-1) ≤ i3 → i3 ≤ 9 → (i3 - (-1)).toNat < nlp18_5 → zW E (d) 94 18 [(2, 63), (0, i3), (9, 0)] [] m4 Q := by
    intro nlp18_5
    induction nlp18_5 with
    | zero =>
      intros
      exact absurd (by assumption : _ < 0) (Nat.not_lt_zero _)
    | succ nlp18_5 ihlp18_5 =>
      intro i3 m4 hIm4 hFm4 km4_1_0 li3 ui3 hmlp18_5
      refine zw_3 zr_94_18 rfl ?_
      refine zw_40_0 zr_94_19 ?_ ?_
      · intro h7
        refine zw_R zr_94_79 (by decide) zm_94 (v := (9, 0)) rfl ?_
        rw [← hQ]; exact ⟨rfl, hIm4, hFm4⟩
      · intro h8
        refine zw_7 zr_94_22 rfl ?_
        refine zw_46r (s := 68) zr_94_23 rfl rfl rfl rfl ?_
        refine zw_3 zr_94_26 rfl ?_
        refine zw_7 zr_94_27 rfl ?_
        refine zw_46r (s := 68) zr_94_28 rfl rfl rfl rfl ?_
        refine zw_3 zr_94_31 rfl ?_
        refine zw_push zr_94_32 ?_
        refine zw_16 zr_94_33 (by omega) ?_
        refine zw_48 (c := 68) (len := 11) zr_94_34 rfl rfl (by omega) (by omega) ?_
        intro x9 ex9
        have bx9 := hIm4.ra (c := 68) (len := 11) (k := ((i3 + 1)).toNat) rfl (by omega)
        rw [← ex9] at bx9
        clear ex9
        refine zw_49 (c := 68) (len := 11) zr_94_35 rfl rfl (by omega) (by omega) ?_
        intro m10 em10
        have hIm10 : zInv m10 := by rw [em10]; exact hIm4.any (by omega) rfl (by decide) (by decide)
        have hFm10 : zFr W_94 m0 m10 := by rw [em10]; exact hFm4.any rfl
        have km10_1_0 : m10 1 0 = f2 := by rw [em10, zUp_ne (by omega)]; exact km4_1_0
        clear em10
        refine zw_push zr_94_36 ?_
        refine zw_9 (L' := [(2, 63), (0, i3), (0, 0)]) zr_94_37 (Nat.le_of_ble_eq_true rfl) rfl ?_
        have lp38_13 : ∀ (nlp38_13 : Nat) (i11 : Int) (m12 : zM), zInv m12 → zFr W_94 m0 m12 → m12 1 0 = f2 → 0 ≤ i11 → i11 ≤ 9 → (9 - i11).toNat < nlp38_13 → zW E (d) 94 38 [(2, 63), (0, i3), (0, i11)] [] m12 Q := by
          intro nlp38_13
          induction nlp38_13 with
          | zero =>
            intros
            exact absurd (by assumption : _ < 0) (Nat.not_lt_zero _)
          | succ nlp38_13 ihlp38_13 =>
            intro i11 m12 hIm12 hFm12 km12_1_0 li11 ui11 hmlp38_13
            refine zw_3 zr_94_38 rfl ?_
            refine zw_3 zr_94_39 rfl ?_
            refine zw_41_3 zr_94_40 ?_ ?_
            · intro h15
              refine zw_15 (c := (-1)) (L' := [(2, 63), (0, (i3 + (-1))), (0, i11)]) zr_94_73 rfl (by decide) (by omega) rfl ?_
              refine zw_42 zr_94_76 ?_
              exact zw_less (L := [(2, 63), (0, (i3 + (-1))), (9, 0)]) ⟨Or.inr rfl, Or.inr rfl, Or.inl rfl, trivial⟩ (ihlp18_5 ((i3 + (-1))) m12 hIm12 hFm12  km12_1_0 (by omega) (by omega)  (by omega))
            · intro h16
              refine zw_7 zr_94_43 rfl ?_
              refine zw_46r (s := 68) zr_94_44 rfl rfl rfl rfl ?_
              refine zw_3 zr_94_47 rfl ?_
              refine zw_45 zr_94_48 ⟨rfl, rfl⟩ ?_
              refine zw_48 (c := 68) (len := 11) zr_94_49 rfl rfl (by omega) (by omega) ?_
              intro x17 ex17
              have bx17 := hIm12.ra (c := 68) (len := 11) (k := (i3).toNat) rfl (by omega)
              rw [← ex17] at bx17
              clear ex17
              refine zw_7 zr_94_50 rfl ?_
              refine zw_3 zr_94_51 rfl ?_
              refine zw_3 zr_94_52 rfl ?_
              refine zw_C zr_94_53 (Or.inl rfl) zm_91 rfl rfl ⟨Nat.le_of_ble_eq_true rfl, Nat.le_of_ble_eq_true rfl, Nat.le_of_ble_eq_true rfl, rfl, by decide⟩ (by omega) (P := (fun v m' => zW E (d) 94 56 [(2, 63), (0, i3), (0, i11)] (if v.1 = 9 then [(0, x17), (0, i3), (2, 68)] else v :: [(0, x17), (0, i3), (2, 68)]) m' Q)) ?_ (fun _ _ h => h)
              generalize hQ1 : (fun v m' => zW E (d) 94 56 [(2, 63), (0, i3), (0, i11)] (if v.1 = 9 then [(0, x17), (0, i3), (2, 68)] else v :: [(0, x17), (0, i3), (2, 68)]) m' Q) = Q1
              show zW E (d - 1) 91 0 [(2, 63), (0, i3), (0, i11)] [] m12 Q1
              refine zw_7 zr_91_0 rfl ?_
              refine zw_46r (s := 65) zr_91_1 rfl rfl rfl rfl ?_
              refine zw_3 zr_91_4 rfl ?_
              refine zw_push zr_91_5 ?_
              refine zw_18 zr_91_7 (by omega) ?_
              refine zw_3 zr_91_8 rfl ?_
              refine zw_16 zr_91_9 (by omega) ?_
              refine zw_48 (c := 65) (len := 100) zr_91_10 rfl rfl (by omega) (by omega) ?_
              intro x18 ex18
              have bx18 := hIm12.ra (c := 65) (len := 100) (k := (((i3 * 10) + i11)).toNat) rfl (by omega)
              rw [← ex18] at bx18
              clear ex18
              refine zw_R zr_91_11 (by decide) zm_91 (v := (0, x18)) rfl ?_
              rw [← hQ1]
              show zW E (d) 94 56 [(2, 63), (0, i3), (0, i11)] [(0, x18), (0, x17), (0, i3), (2, 68)] m12 Q
              refine zw_7 zr_94_56 rfl ?_
              refine zw_3 zr_94_57 rfl ?_
              refine zw_3 zr_94_58 rfl ?_
              refine zw_C zr_94_59 (Or.inl rfl) zm_91 rfl rfl ⟨Nat.le_of_ble_eq_true rfl, Nat.le_of_ble_eq_true rfl, Nat.le_of_ble_eq_true rfl, rfl, by decide⟩ (by omega) (P := (fun v m' => zW E (d) 94 62 [(2, 63), (0, i3), (0, i11)] (if v.1 = 9 then [(0, x18), (0, x17), (0, i3), (2, 68)] else v :: [(0, x18), (0, x17), (0, i3), (2, 68)]) m' Q)) ?_ (fun _ _ h => h)
              generalize hQ1 : (fun v m' => zW E (d) 94 62 [(2, 63), (0, i3), (0, i11)] (if v.1 = 9 then [(0, x18), (0, x17), (0, i3), (2, 68)] else v :: [(0, x18), (0, x17), (0, i3), (2, 68)]) m' Q) = Q1
              show zW E (d - 1) 91 0 [(2, 63), (0, i11), (0, i3)] [] m12 Q1
              refine zw_7 zr_91_0 rfl ?_
              refine zw_46r (s := 65) zr_91_1 rfl rfl rfl rfl ?_
              refine zw_3 zr_91_4 rfl ?_
              refine zw_push zr_91_5 ?_
              refine zw_18 zr_91_7 (by omega) ?_
              refine zw_3 zr_91_8 rfl ?_
              refine zw_16 zr_91_9 (by omega) ?_
              refine zw_48 (c := 65) (len := 100) zr_91_10 rfl rfl (by omega) (by omega) ?_
              intro x19 ex19
              have bx19 := hIm12.ra (c := 65) (len := 100) (k := (((i11 * 10) + i3)).toNat) rfl (by omega)
              rw [← ex19] at bx19
              clear ex19
              refine zw_R zr_91_11 (by decide) zm_91 (v := (0, x19)) rfl ?_
              rw [← hQ1]
              show zW E (d) 94 62 [(2, 63), (0, i3), (0, i11)] [(0, x19), (0, x18), (0, x17), (0, i3), (2, 68)] m12 Q
              refine zw_120 zr_94_62 (Nat.le_of_ble_eq_true rfl) (by omega) (by omega) (by omega) ?_
              intro x20 hx20a hx20b hx20c
              refine zw_16h zr_94_65 ?_
              intro x21 hx21a hx21b
              refine zw_49 (c := 68) (len := 11) zr_94_66 rfl rfl (by omega) (by omega) ?_
              intro m22 em22
              have hIm22 : zInv m22 := by rw [em22]; exact hIm12.any (by omega) rfl (by decide) (by decide)
              have hFm22 : zFr W_94 m0 m22 := by rw [em22]; exact hFm12.any rfl
              have km22_1_0 : m22 1 0 = f2 := by rw [em22, zUp_ne (by omega)]; exact km12_1_0
              clear em22
              refine zw_15 (c := 1) (L' := [(2, 63), (0, i3), (0, (i11 + 1))]) zr_94_67 rfl (by decide) (by omega) rfl ?_
              refine zw_42 zr_94_70 ?_
              exact zw_less (L := [(2, 63), (0, i3), (0, (i11 + 1))]) ⟨Or.inr rfl, Or.inr rfl, Or.inr rfl, trivial⟩ (ihlp38_13 ((i11 + 1)) m22 hIm22 hFm22  km22_1_0 (by omega) (by omega)  (by omega))
        exact lp38_13 _ (0) m10 hIm10 hFm10  km10_1_0 (by omega) (by omega)  (Nat.lt_succ_self _)
  exact lp18_5 _ ((f2 - 1)) m1 hIm1 hFm1  ef2 (by omega) (by omega)  (Nat.lt_succ_self _)

abbrev W_95 : List (Nat × Nat) := [(67, 1000)]
set_option maxHeartbeats 8000000 in
theorem th_95 {E : zE} {d : Nat} {m0 : zM} {a0 : Int} (hd : 2 ≤ d) (hI0 : zInv m0) (ha0 : 0 ≤ a0 ∧ a0 ≤ 9) : zC E d 95 [(2, 63), (0, a0)] m0 (fun v m' => v = (9, 0) ∧ zInv m' ∧ zFr W_95 m0 m') := by
  have hF0 : zFr W_95 m0 m0 := zFr.rfl
  generalize hQ : (fun (v : zV) (m' : zM) => v = (9, 0) ∧ zInv m' ∧ zFr W_95 m0 m') = Q
  show zW E d 95 0 [(2, 63), (0, a0), (9, 0)] [] m0 Q
  refine zw_push zr_95_0 ?_
  refine zw_9 (L' := [(2, 63), (0, a0), (0, 0)]) zr_95_1 (Nat.le_of_ble_eq_true rfl) rfl ?_
  have lp2_3 : ∀ (nlp2_3 : Nat) (i1 : Int) (m2 : zM), zInv m2 → zFr W_95 m0 m2 → 0 ≤ i1 → i1 ≤ 3 → (3 - i1).toNat < nlp2_3 → zW E (d) 95 2 [(2, 63), (0, a0), (0, i1)] [] m2 Q := by
    intro nlp2_3
    induction nlp2_3 with
    | zero =>
      intros
      exact absurd (by assumption : _ < 0) (Nat.not_lt_zero _)
    | succ nlp2_3 ihlp2_3 =>
      intro i1 m2 hIm2 hFm2 li1 ui1 hmlp2_3
      refine zw_3 zr_95_2 rfl ?_
      refine zw_push zr_95_3 ?_
      refine zw_41_3 zr_95_4 ?_ ?_
      · intro h5
        refine zw_push zr_95_24 ?_
        refine zw_9 (L' := [(2, 63), (0, a0), (0, 0)]) zr_95_25 (Nat.le_of_ble_eq_true rfl) rfl ?_
        have lp26_8 : ∀ (nlp26_8 : Nat) (i6 : Int) (m7 : zM), zInv m7 → zFr W_95 m0 m7 → 0 ≤ i6 → i6 ≤ 9 → (9 - i6).toNat < nlp26_8 → zW E (d) 95 26 [(2, 63), (0, a0), (0, i6)] [] m7 Q := by
          intro nlp26_8
          induction nlp26_8 with
          | zero =>
            intros
            exact absurd (by assumption : _ < 0) (Nat.not_lt_zero _)
          | succ nlp26_8 ihlp26_8 =>
            intro i6 m7 hIm7 hFm7 li6 ui6 hmlp26_8
            refine zw_3 zr_95_26 rfl ?_
            refine zw_3 zr_95_27 rfl ?_
            refine zw_41_3 zr_95_28 ?_ ?_
            · intro h10
              refine zw_R zr_95_93 (by decide) zm_95 (v := (9, 0)) rfl ?_
              rw [← hQ]; exact ⟨rfl, hIm7, hFm7⟩
            · intro h11
              refine zw_7 zr_95_31 rfl ?_
              refine zw_46r (s := 67) zr_95_32 rfl rfl rfl rfl ?_
              refine zw_3 zr_95_35 rfl ?_
              refine zw_push zr_95_36 ?_
              refine zw_18 zr_95_37 (by omega) ?_
              refine zw_7 zr_95_38 rfl ?_
              refine zw_46r (s := 66) zr_95_39 rfl rfl rfl rfl ?_
              refine zw_3 zr_95_42 rfl ?_
              refine zw_48 (c := 66) (len := 10) zr_95_43 rfl rfl (by omega) (by omega) ?_
              intro x12 ex12
              have bx12 := ib_66 hIm7 (k := (i6).toNat) (by omega)
              rw [← ex12] at bx12
              clear ex12
              refine zw_push zr_95_44 ?_
              refine zw_16 zr_95_45 (by omega) ?_
              refine zw_push zr_95_46 ?_
              refine zw_20 zr_95_47 (by omega) (by omega) (by omega) (by omega) ?_
              refine zw_16 zr_95_48 (by omega) ?_
              refine zw_45 zr_95_49 ⟨rfl, rfl⟩ ?_
              refine zw_48 (c := 67) (len := 30) zr_95_50 rfl rfl (by omega) (by omega) ?_
              intro x13 ex13
              have bx13 := hIm7.ra (c := 67) (len := 30) (k := (((a0 * 3) + ((x12 + 1) % 3))).toNat) rfl (by omega)
              rw [← ex13] at bx13
              clear ex13
              refine zw_7 zr_95_51 rfl ?_
              refine zw_3 zr_95_52 rfl ?_
              refine zw_3 zr_95_53 rfl ?_
              refine zw_C zr_95_54 (Or.inl rfl) zm_91 rfl rfl ⟨Nat.le_of_ble_eq_true rfl, Nat.le_of_ble_eq_true rfl, Nat.le_of_ble_eq_true rfl, rfl, by decide⟩ (by omega) (P := (fun v m' => zW E (d) 95 57 [(2, 63), (0, a0), (0, i6)] (if v.1 = 9 then [(0, x13), (0, ((a0 * 3) + ((x12 + 1) % 3))), (2, 67)] else v :: [(0, x13), (0, ((a0 * 3) + ((x12 + 1) % 3))), (2, 67)]) m' Q)) ?_ (fun _ _ h => h)
              generalize hQ1 : (fun v m' => zW E (d) 95 57 [(2, 63), (0, a0), (0, i6)] (if v.1 = 9 then [(0, x13), (0, ((a0 * 3) + ((x12 + 1) % 3))), (2, 67)] else v :: [(0, x13), (0, ((a0 * 3) + ((x12 + 1) % 3))), (2, 67)]) m' Q) = Q1
              show zW E (d - 1) 91 0 [(2, 63), (0, i6), (0, a0)] [] m7 Q1
              refine zw_7 zr_91_0 rfl ?_
              refine zw_46r (s := 65) zr_91_1 rfl rfl rfl rfl ?_
              refine zw_3 zr_91_4 rfl ?_
              refine zw_push zr_91_5 ?_
              refine zw_18 zr_91_7 (by omega) ?_
              refine zw_3 zr_91_8 rfl ?_
              refine zw_16 zr_91_9 (by omega) ?_
              refine zw_48 (c := 65) (len := 100) zr_91_10 rfl rfl (by omega) (by omega) ?_
              intro x14 ex14
              have bx14 := hIm7.ra (c := 65) (len := 100) (k := (((i6 * 10) + a0)).toNat) rfl (by omega)
              rw [← ex14] at bx14
              clear ex14
              refine zw_R zr_91_11 (by decide) zm_91 (v := (0, x14)) rfl ?_
              rw [← hQ1]
              show zW E (d) 95 57 [(2, 63), (0, a0), (0, i6)] [(0, x14), (0, x13), (0, ((a0 * 3) + ((x12 + 1) % 3))), (2, 67)] m7 Q
              refine zw_16h zr_95_57 ?_
              intro x15 hx15a hx15b
              refine zw_49 (c := 67) (len := 30) zr_95_58 rfl rfl (by omega) (by omega) ?_
              intro m16 em16
              have hIm16 : zInv m16 := by rw [em16]; exact hIm7.any (by omega) rfl (by decide) (by decide)
              have hFm16 : zFr W_95 m0 m16 := by rw [em16]; exact hFm7.any rfl
              clear em16
              refine zw_7 zr_95_59 rfl ?_
              refine zw_46r (s := 67) zr_95_60 rfl rfl rfl rfl ?_
              refine zw_3 zr_95_63 rfl ?_
              refine zw_push zr_95_64 ?_
              refine zw_18 zr_95_65 (by omega) ?_
              refine zw_7 zr_95_66 rfl ?_
              refine zw_46r (s := 66) zr_95_67 rfl rfl rfl rfl ?_
              refine zw_3 zr_95_70 rfl ?_
              refine zw_48 (c := 66) (len := 10) zr_95_71 rfl rfl (by omega) (by omega) ?_
              intro x17 ex17
              have bx17 := ib_66 hIm16 (k := (i6).toNat) (by omega)
              rw [← ex17] at bx17
              clear ex17
              refine zw_push zr_95_72 ?_
              refine zw_16 zr_95_73 (by omega) ?_
              refine zw_push zr_95_74 ?_
              refine zw_20 zr_95_75 (by omega) (by omega) (by omega) (by omega) ?_
              refine zw_16 zr_95_76 (by omega) ?_
              refine zw_45 zr_95_77 ⟨rfl, rfl⟩ ?_
              refine zw_48 (c := 67) (len := 30) zr_95_78 rfl rfl (by omega) (by omega) ?_
              intro x18 ex18
              have bx18 := hIm16.ra (c := 67) (len := 30) (k := (((a0 * 3) + ((x17 + 2) % 3))).toNat) rfl (by omega)
              rw [← ex18] at bx18
              clear ex18
              refine zw_7 zr_95_79 rfl ?_
              refine zw_3 zr_95_80 rfl ?_
              refine zw_3 zr_95_81 rfl ?_
              refine zw_C zr_95_82 (Or.inl rfl) zm_91 rfl rfl ⟨Nat.le_of_ble_eq_true rfl, Nat.le_of_ble_eq_true rfl, Nat.le_of_ble_eq_true rfl, rfl, by decide⟩ (by omega) (P := (fun v m' => zW E (d) 95 85 [(2, 63), (0, a0), (0, i6)] (if v.1 = 9 then [(0, x18), (0, ((a0 * 3) + ((x17 + 2) % 3))), (2, 67)] else v :: [(0, x18), (0, ((a0 * 3) + ((x17 + 2) % 3))), (2, 67)]) m' Q)) ?_ (fun _ _ h => h)
              generalize hQ1 : (fun v m' => zW E (d) 95 85 [(2, 63), (0, a0), (0, i6)] (if v.1 = 9 then [(0, x18), (0, ((a0 * 3) + ((x17 + 2) % 3))), (2, 67)] else v :: [(0, x18), (0, ((a0 * 3) + ((x17 + 2) % 3))), (2, 67)]) m' Q) = Q1
              show zW E (d - 1) 91 0 [(2, 63), (0, a0), (0, i6)] [] m16 Q1
              refine zw_7 zr_91_0 rfl ?_
              refine zw_46r (s := 65) zr_91_1 rfl rfl rfl rfl ?_
              refine zw_3 zr_91_4 rfl ?_
              refine zw_push zr_91_5 ?_
              refine zw_18 zr_91_7 (by omega) ?_
              refine zw_3 zr_91_8 rfl ?_
              refine zw_16 zr_91_9 (by omega) ?_
              refine zw_48 (c := 65) (len := 100) zr_91_10 rfl rfl (by omega) (by omega) ?_
              intro x19 ex19
              have bx19 := hIm16.ra (c := 65) (len := 100) (k := (((a0 * 10) + i6)).toNat) rfl (by omega)
              rw [← ex19] at bx19
              clear ex19
              refine zw_R zr_91_11 (by decide) zm_91 (v := (0, x19)) rfl ?_
              rw [← hQ1]
              show zW E (d) 95 85 [(2, 63), (0, a0), (0, i6)] [(0, x19), (0, x18), (0, ((a0 * 3) + ((x17 + 2) % 3))), (2, 67)] m16 Q
              refine zw_16h zr_95_85 ?_
              intro x20 hx20a hx20b
              refine zw_49 (c := 67) (len := 30) zr_95_86 rfl rfl (by omega) (by omega) ?_
              intro m21 em21
              have hIm21 : zInv m21 := by rw [em21]; exact hIm16.any (by omega) rfl (by decide) (by decide)
              have hFm21 : zFr W_95 m0 m21 := by rw [em21]; exact hFm16.any rfl
              clear em21
              refine zw_15 (c := 1) (L' := [(2, 63), (0, a0), (0, (i6 + 1))]) zr_95_87 rfl (by decide) (by omega) rfl ?_
              refine zw_42 zr_95_90 ?_
              exact zw_less (L := [(2, 63), (0, a0), (0, (i6 + 1))]) ⟨Or.inr rfl, Or.inr rfl, Or.inr rfl, trivial⟩ (ihlp26_8 ((i6 + 1)) m21 hIm21 hFm21   (by omega) (by omega)  (by omega))
        exact lp26_8 _ (0) m2 hIm2 hFm2   (by omega) (by omega)  (Nat.lt_succ_self _)
      · intro h22
        refine zw_7 zr_95_7 rfl ?_
        refine zw_46r (s := 67) zr_95_8 rfl rfl rfl rfl ?_
        refine zw_3 zr_95_11 rfl ?_
        refine zw_push zr_95_12 ?_
        refine zw_18 zr_95_13 (by omega) ?_
        refine zw_3 zr_95_14 rfl ?_
        refine zw_16 zr_95_15 (by omega) ?_
        refine zw_push zr_95_16 ?_
        refine zw_49 (c := 67) (len := 30) zr_95_17 rfl rfl (by omega) (by omega) ?_
        intro m23 em23
        have hIm23 : zInv m23 := by rw [em23]; exact hIm2.any (by omega) rfl (by decide) (by decide)
        have hFm23 : zFr W_95 m0 m23 := by rw [em23]; exact hFm2.any rfl
        clear em23
        refine zw_15 (c := 1) (L' := [(2, 63), (0, a0), (0, (i1 + 1))]) zr_95_18 rfl (by decide) (by omega) rfl ?_
        refine zw_42 zr_95_21 ?_
        exact zw_less (L := [(2, 63), (0, a0), (0, (i1 + 1))]) ⟨Or.inr rfl, Or.inr rfl, Or.inr rfl, trivial⟩ (ihlp2_3 ((i1 + 1)) m23 hIm23 hFm23   (by omega) (by omega)  (by omega))
  exact lp2_3 _ (0) m0 hI0 hF0   (by omega) (by omega)  (Nat.lt_succ_self _)

abbrev W_96 : List (Nat × Nat) := [(63, 0), (64, 1000), (66, 1000), (67, 1000)]
def rs_96 (E : zE) (d : Nat) : Prop := ∀ (m0 : zM) (a0 : Int) (a1 : Int), (10 - a0).toNat + 4 ≤ d → zInv m0 → (0 ≤ a0 ∧ a0 ≤ 10) → ((-2147483648) ≤ a1 ∧ a1 ≤ 2147483647) → zC E d 96 [(2, 63), (0, a0), (0, a1)] m0 (fun v m' => v = (9, 0) ∧ zInv m' ∧ zFr W_96 m0 m')
set_option maxHeartbeats 8000000 in
theorem tr_96 {E : zE} {d : Nat} (ih96 : rs_96 E (d - 1)) : rs_96 E d := by
  intro m0 a0 a1 hd hI0 ha0 ha1
  have hF0 : zFr W_96 m0 m0 := zFr.rfl
  generalize hQ : (fun (v : zV) (m' : zM) => v = (9, 0) ∧ zInv m' ∧ zFr W_96 m0 m') = Q
  show zW E d 96 0 [(2, 63), (0, a0), (0, a1), (9, 0), (9, 0), (9, 0)] [] m0 Q
  refine zw_3 zr_96_0 rfl ?_
  refine zw_7 zr_96_1 rfl ?_
  refine zw_46r (s := 1) zr_96_2 rfl rfl rfl rfl ?_
  obtain ⟨f1, ef1⟩ : ∃ v, m0 1 0 = v := ⟨_, rfl⟩
  have bf1 := ib_1_0 hI0
  rw [ef1] at bf1
  refine zw_46i zr_96_5 ef1 rfl rfl rfl ?_
  refine zw_41_0 zr_96_8 ?_ ?_
  · intro h2
    refine zw_7 zr_96_40 rfl ?_
    refine zw_3 zr_96_41 rfl ?_
    refine zw_C zr_96_42 (Or.inl rfl) zm_95 rfl rfl ⟨Nat.le_of_ble_eq_true rfl, Nat.le_of_ble_eq_true rfl, Nat.le_of_ble_eq_true rfl, rfl, by decide⟩ (by omega) (th_95 (d := d - 1) (by omega) hI0 (a0 := a0)      (by omega) ) ?_
    rintro _ m3 ⟨rfl, hIm3, gm3⟩
    have hFm3 : zFr W_96 m0 m3 := hF0.trans gm3 rfl
    have km3_1_0 : m3 1 0 = f1 := (gm3 1 0 rfl).trans ef1
    show zW E (d) 96 45 [(2, 63), (0, a0), (0, a1), (9, 0), (9, 0), (9, 0)] [] m3 Q
    refine zw_3 zr_96_45 rfl ?_
    refine zw_40_4 zr_96_46 ?_ ?_
    · intro h4
      refine zw_push zr_96_53 ?_
      refine zw_9 (L' := [(2, 63), (0, a0), (0, a1), (0, 3), (9, 0), (9, 0)]) zr_96_54 (Nat.le_of_ble_eq_true rfl) rfl ?_
      refine zw_push zr_96_55 ?_
      refine zw_10 (L' := [(2, 63), (0, a0), (0, a1), (0, 3), (0, 0), (9, 0)]) zr_96_56 (Nat.le_of_ble_eq_true rfl) rfl ?_
      have lp58_7 : ∀ (nlp58_7 : Nat) (i5 : Int) (m6 : zM), zInv m6 → zFr W_96 m0 m6 → m6 1 0 = f1 → 0 ≤ i5 → i5 ≤ 3 → (3 - i5).toNat < nlp58_7 → zW E (d) 96 58 [(2, 63), (0, a0), (0, a1), (0, 3), (0, i5), (9, 0)] [] m6 Q := by
        intro nlp58_7
        induction nlp58_7 with
        | zero =>
          intros
          exact absurd (by assumption : _ < 0) (Nat.not_lt_zero _)
        | succ nlp58_7 ihlp58_7 =>
          intro i5 m6 hIm6 hFm6 km6_1_0 li5 ui5 hmlp58_7
          refine zw_4 zr_96_58 rfl ?_
          refine zw_3 zr_96_60 rfl ?_
          refine zw_41_3 zr_96_61 ?_ ?_
          · intro h9
            refine zw_R zr_96_120 (by decide) zm_96 (v := (9, 0)) rfl ?_
            rw [← hQ]; exact ⟨rfl, hIm6, hFm6⟩
          · intro h10
            refine zw_3 zr_96_64 rfl ?_
            refine zw_7 zr_96_65 rfl ?_
            refine zw_46r (s := 67) zr_96_66 rfl rfl rfl rfl ?_
            refine zw_3 zr_96_69 rfl ?_
            refine zw_push zr_96_70 ?_
            refine zw_18 zr_96_71 (by omega) ?_
            refine zw_4 zr_96_72 rfl ?_
            refine zw_16 zr_96_74 (by omega) ?_
            refine zw_48 (c := 67) (len := 30) zr_96_75 rfl rfl (by omega) (by omega) ?_
            intro x11 ex11
            have bx11 := hIm6.ra (c := 67) (len := 30) (k := (((a0 * 3) + i5)).toNat) rfl (by omega)
            rw [← ex11] at bx11
            clear ex11
            refine zw_16h zr_96_76 ?_
            intro x12 hx12a hx12b
            refine zw_10 (L' := [(2, 63), (0, a0), (0, a1), (0, 3), (0, i5), (0, x12)]) zr_96_77 (Nat.le_of_ble_eq_true rfl) rfl ?_
            refine zw_4 zr_96_79 rfl ?_
            refine zw_7 zr_96_81 rfl ?_
            refine zw_46r (s := 68) zr_96_82 rfl rfl rfl rfl ?_
            refine zw_3 zr_96_85 rfl ?_
            refine zw_push zr_96_86 ?_
            refine zw_16 zr_96_87 (by omega) ?_
            refine zw_48 (c := 68) (len := 11) zr_96_88 rfl rfl (by omega) (by omega) ?_
            intro x13 ex13
            have bx13 := hIm6.ra (c := 68) (len := 11) (k := ((a0 + 1)).toNat) rfl (by omega)
            rw [← ex13] at bx13
            clear ex13
            refine zw_16h zr_96_89 ?_
            intro x14 hx14a hx14b
            refine zw_7 zr_96_90 rfl ?_
            obtain ⟨f15, ef15⟩ : ∃ v, m6 63 0 = v := ⟨_, rfl⟩
            have bf15 := hIm6.fi (c := 63) (k := 0) rfl
            rw [ef15] at bf15
            refine zw_46i zr_96_91 ef15 rfl rfl rfl ?_
            refine zw_41_5 zr_96_94 ?_ ?_
            · intro h16
              refine zw_15 (c := 1) (L' := [(2, 63), (0, a0), (0, a1), (0, 3), (0, (i5 + 1)), (0, x12)]) zr_96_114 rfl (by decide) (by omega) rfl ?_
              refine zw_42 zr_96_117 ?_
              exact zw_less (L := [(2, 63), (0, a0), (0, a1), (0, 3), (0, (i5 + 1)), (9, 0)]) ⟨Or.inr rfl, Or.inr rfl, Or.inr rfl, Or.inr rfl, Or.inr rfl, Or.inl rfl, trivial⟩ (ihlp58_7 ((i5 + 1)) m6 hIm6 hFm6  km6_1_0 (by omega) (by omega)  (by omega))
            · intro h17
              refine zw_7 zr_96_97 rfl ?_
              refine zw_46r (s := 66) zr_96_98 rfl rfl rfl rfl ?_
              refine zw_3 zr_96_101 rfl ?_
              refine zw_4 zr_96_102 rfl ?_
              refine zw_49 (c := 66) (len := 10) zr_96_104 rfl rfl (by omega) (by omega) ?_
              intro m18 em18
              have hIm18 : zInv m18 := by rw [em18]; exact iu_66 hIm6 (by omega)
              have hFm18 : zFr W_96 m0 m18 := by rw [em18]; exact hFm6.any rfl
              have km18_1_0 : m18 1 0 = f1 := by rw [em18, zUp_ne (by omega)]; exact km6_1_0
              have km18_63_0 : m18 63 0 = f15 := by rw [em18, zUp_ne (by omega)]; exact ef15
              clear em18
              refine zw_7 zr_96_105 rfl ?_
              refine zw_3 zr_96_106 rfl ?_
              refine zw_push zr_96_107 ?_
              refine zw_16 zr_96_108 (by omega) ?_
              refine zw_4 zr_96_109 rfl ?_
              refine zw_C zr_96_111 (Or.inl rfl) zm_96 rfl rfl ⟨Nat.le_of_ble_eq_true rfl, Nat.le_of_ble_eq_true rfl, Nat.le_of_ble_eq_true rfl, rfl, by decide⟩ (by omega) (ih96 m18 ((a0 + 1)) (x12) (by omega) hIm18   (by omega) (by omega) ) ?_
              rintro _ m19 ⟨rfl, hIm19, gm19⟩
              have hFm19 : zFr W_96 m0 m19 := hFm18.trans gm19 rfl
              have km19_1_0 : m19 1 0 = f1 := (gm19 1 0 rfl).trans km18_1_0
              show zW E (d) 96 114 [(2, 63), (0, a0), (0, a1), (0, 3), (0, i5), (0, x12)] [] m19 Q
              refine zw_15 (c := 1) (L' := [(2, 63), (0, a0), (0, a1), (0, 3), (0, (i5 + 1)), (0, x12)]) zr_96_114 rfl (by decide) (by omega) rfl ?_
              refine zw_42 zr_96_117 ?_
              exact zw_less (L := [(2, 63), (0, a0), (0, a1), (0, 3), (0, (i5 + 1)), (9, 0)]) ⟨Or.inr rfl, Or.inr rfl, Or.inr rfl, Or.inr rfl, Or.inr rfl, Or.inl rfl, trivial⟩ (ihlp58_7 ((i5 + 1)) m19 hIm19 hFm19  km19_1_0 (by omega) (by omega)  (by omega))
      exact lp58_7 _ (0) m3 hIm3 hFm3  km3_1_0 (by omega) (by omega)  (Nat.lt_succ_self _)
    · intro h20
      refine zw_push zr_96_49 ?_
      refine zw_42 zr_96_50 ?_
      refine zw_9 (L' := [(2, 63), (0, a0), (0, a1), (0, 1), (9, 0), (9, 0)]) zr_96_54 (Nat.le_of_ble_eq_true rfl) rfl ?_
      refine zw_push zr_96_55 ?_
      refine zw_10 (L' := [(2, 63), (0, a0), (0, a1), (0, 1), (0, 0), (9, 0)]) zr_96_56 (Nat.le_of_ble_eq_true rfl) rfl ?_
      have lp58_23 : ∀ (nlp58_23 : Nat) (i21 : Int) (m22 : zM), zInv m22 → zFr W_96 m0 m22 → m22 1 0 = f1 → 0 ≤ i21 → i21 ≤ 3 → (3 - i21).toNat < nlp58_23 → zW E (d) 96 58 [(2, 63), (0, a0), (0, a1), (0, 1), (0, i21), (9, 0)] [] m22 Q := by
        intro nlp58_23
        induction nlp58_23 with
        | zero =>
          intros
          exact absurd (by assumption : _ < 0) (Nat.not_lt_zero _)
        | succ nlp58_23 ihlp58_23 =>
          intro i21 m22 hIm22 hFm22 km22_1_0 li21 ui21 hmlp58_23
          refine zw_4 zr_96_58 rfl ?_
          refine zw_3 zr_96_60 rfl ?_
          refine zw_41_3 zr_96_61 ?_ ?_
          · intro h25
            refine zw_R zr_96_120 (by decide) zm_96 (v := (9, 0)) rfl ?_
            rw [← hQ]; exact ⟨rfl, hIm22, hFm22⟩
          · intro h26
            refine zw_3 zr_96_64 rfl ?_
            refine zw_7 zr_96_65 rfl ?_
            refine zw_46r (s := 67) zr_96_66 rfl rfl rfl rfl ?_
            refine zw_3 zr_96_69 rfl ?_
            refine zw_push zr_96_70 ?_
            refine zw_18 zr_96_71 (by omega) ?_
            refine zw_4 zr_96_72 rfl ?_
            refine zw_16 zr_96_74 (by omega) ?_
            obtain ⟨f27, ef27⟩ : ∃ v, m22 67 0 = v := ⟨_, rfl⟩
            have bf27 : (-2147483648) ≤ m22 67 0 ∧ m22 67 0 ≤ 2147483647 := hIm22.ra (c := 67) (len := 30) rfl (by omega)
            rw [ef27] at bf27
            refine zw_48k (c := 67) (len := 30) zr_96_75 rfl rfl (by omega) (by omega) (show (((a0 * 3) + i21) : Int).toNat = 0 by omega) ef27 ?_
            refine zw_16h zr_96_76 ?_
            intro x28 hx28a hx28b
            refine zw_10 (L' := [(2, 63), (0, a0), (0, a1), (0, 1), (0, i21), (0, x28)]) zr_96_77 (Nat.le_of_ble_eq_true rfl) rfl ?_
            refine zw_4 zr_96_79 rfl ?_
            refine zw_7 zr_96_81 rfl ?_
            refine zw_46r (s := 68) zr_96_82 rfl rfl rfl rfl ?_
            refine zw_3 zr_96_85 rfl ?_
            refine zw_push zr_96_86 ?_
            refine zw_16 zr_96_87 (by omega) ?_
            obtain ⟨f29, ef29⟩ : ∃ v, m22 68 1 = v := ⟨_, rfl⟩
            have bf29 : (-2147483648) ≤ m22 68 1 ∧ m22 68 1 ≤ 2147483647 := hIm22.ra (c := 68) (len := 11) rfl (by omega)
            rw [ef29] at bf29
            refine zw_48k (c := 68) (len := 11) zr_96_88 rfl rfl (by omega) (by omega) (show ((a0 + 1) : Int).toNat = 1 by omega) ef29 ?_
            refine zw_16h zr_96_89 ?_
            intro x30 hx30a hx30b
            refine zw_7 zr_96_90 rfl ?_
            obtain ⟨f31, ef31⟩ : ∃ v, m22 63 0 = v := ⟨_, rfl⟩
            have bf31 := hIm22.fi (c := 63) (k := 0) rfl
            rw [ef31] at bf31
            refine zw_46i zr_96_91 ef31 rfl rfl rfl ?_
            refine zw_41_5 zr_96_94 ?_ ?_
            · intro h32
              refine zw_15 (c := 1) (L' := [(2, 63), (0, a0), (0, a1), (0, 1), (0, (i21 + 1)), (0, x28)]) zr_96_114 rfl (by decide) (by omega) rfl ?_
              refine zw_42 zr_96_117 ?_
              exact zw_less (L := [(2, 63), (0, a0), (0, a1), (0, 1), (0, (i21 + 1)), (9, 0)]) ⟨Or.inr rfl, Or.inr rfl, Or.inr rfl, Or.inr rfl, Or.inr rfl, Or.inl rfl, trivial⟩ (ihlp58_23 ((i21 + 1)) m22 hIm22 hFm22  km22_1_0 (by omega) (by omega)  (by omega))
            · intro h33
              refine zw_7 zr_96_97 rfl ?_
              refine zw_46r (s := 66) zr_96_98 rfl rfl rfl rfl ?_
              refine zw_3 zr_96_101 rfl ?_
              refine zw_4 zr_96_102 rfl ?_
              refine zw_49 (c := 66) (len := 10) zr_96_104 rfl rfl (by omega) (by omega) ?_
              intro m34 em34
              have hIm34 : zInv m34 := by rw [em34]; exact iu_66 hIm22 (by omega)
              have hFm34 : zFr W_96 m0 m34 := by rw [em34]; exact hFm22.any rfl
              have km34_1_0 : m34 1 0 = f1 := by rw [em34, zUp_ne (by omega)]; exact km22_1_0
              have km34_67_0 : m34 67 0 = f27 := by rw [em34, zUp_ne (by omega)]; exact ef27
              have km34_68_1 : m34 68 1 = f29 := by rw [em34, zUp_ne (by omega)]; exact ef29
              have km34_63_0 : m34 63 0 = f31 := by rw [em34, zUp_ne (by omega)]; exact ef31
              have km34_66_0 : m34 66 0 = i21 := by rw [em34, show (a0 : Int).toNat = 0 by omega]; exact zUp_eq _ _ _ _
              clear em34
              refine zw_7 zr_96_105 rfl ?_
              refine zw_3 zr_96_106 rfl ?_
              refine zw_push zr_96_107 ?_
              refine zw_16 zr_96_108 (by omega) ?_
              refine zw_4 zr_96_109 rfl ?_
              refine zw_C zr_96_111 (Or.inl rfl) zm_96 rfl rfl ⟨Nat.le_of_ble_eq_true rfl, Nat.le_of_ble_eq_true rfl, Nat.le_of_ble_eq_true rfl, rfl, by decide⟩ (by omega) (ih96 m34 ((a0 + 1)) (x28) (by omega) hIm34   (by omega) (by omega) ) ?_
              rintro _ m35 ⟨rfl, hIm35, gm35⟩
              have hFm35 : zFr W_96 m0 m35 := hFm34.trans gm35 rfl
              have km35_1_0 : m35 1 0 = f1 := (gm35 1 0 rfl).trans km34_1_0
              have km35_68_1 : m35 68 1 = f29 := (gm35 68 1 rfl).trans km34_68_1
              show zW E (d) 96 114 [(2, 63), (0, a0), (0, a1), (0, 1), (0, i21), (0, x28)] [] m35 Q
              refine zw_15 (c := 1) (L' := [(2, 63), (0, a0), (0, a1), (0, 1), (0, (i21 + 1)), (0, x28)]) zr_96_114 rfl (by decide) (by omega) rfl ?_
              refine zw_42 zr_96_117 ?_
              exact zw_less (L := [(2, 63), (0, a0), (0, a1), (0, 1), (0, (i21 + 1)), (9, 0)]) ⟨Or.inr rfl, Or.inr rfl, Or.inr rfl, Or.inr rfl, Or.inr rfl, Or.inl rfl, trivial⟩ (ihlp58_23 ((i21 + 1)) m35 hIm35 hFm35  km35_1_0 (by omega) (by omega)  (by omega))
      exact lp58_23 _ (0) m3 hIm3 hFm3  km3_1_0 (by omega) (by omega)  (Nat.lt_succ_self _)
  · intro h36
    refine zw_3 zr_96_11 rfl ?_
    refine zw_7 zr_96_12 rfl ?_
    obtain ⟨f37, ef37⟩ : ∃ v, m0 63 0 = v := ⟨_, rfl⟩
    have bf37 := hI0.fi (c := 63) (k := 0) rfl
    rw [ef37] at bf37
    refine zw_46i zr_96_13 ef37 rfl rfl rfl ?_
    refine zw_41_5 zr_96_16 ?_ ?_
    · intro h38
      refine zw_R zr_96_39 (by decide) zm_96 (v := (9, 0)) rfl ?_
      rw [← hQ]; exact ⟨rfl, hI0, hF0⟩
    · intro h39
      refine zw_7 zr_96_19 rfl ?_
      refine zw_3 zr_96_20 rfl ?_
      refine zw_47 (c := 63) zr_96_21 rfl ⟨rfl, by decide, rfl⟩ ?_
      intro m40 em40
      have hIm40 : zInv m40 := by rw [em40]; exact hI0.any (by omega) rfl (by decide) (by decide)
      have hFm40 : zFr W_96 m0 m40 := by rw [em40]; exact hF0.up rfl
      have km40_1_0 : m40 1 0 = f1 := by rw [em40, zUp_ne (by omega)]; exact ef1
      have km40_63_0 : m40 63 0 = a1 := by rw [em40]; exact zUp_eq _ _ _ _
      clear em40
      refine zw_7 zr_96_24 rfl ?_
      refine zw_46r (s := 66) zr_96_25 rfl rfl rfl rfl ?_
      refine zw_push zr_96_28 ?_
      refine zw_7 zr_96_29 rfl ?_
      refine zw_46r (s := 64) zr_96_30 rfl rfl rfl rfl ?_
      refine zw_push zr_96_33 ?_
      refine zw_push zr_96_34 ?_
      refine zw_114 (c1 := 64) (c2 := 66) (l1 := 10) (l2 := 10) zr_96_36 rfl rfl rfl rfl (by decide) (Nat.le_of_ble_eq_true rfl) (by omega) (by omega) ?_
      intro m41 em41
      have hIm41 : zInv m41 := by rw [em41]; exact zInv.cp0 hIm40 (l2 := 10) (fun _ => rfl) rfl (by omega) (by decide) (by decide)
      have hFm41 : zFr W_96 m0 m41 := by rw [em41]; exact hFm40.cp rfl
      have km41_1_0 : m41 1 0 = f1 := by rw [em41, zCp_ne (by decide)]; exact km40_1_0
      have km41_63_0 : m41 63 0 = a1 := by rw [em41, zCp_ne (by decide)]; exact km40_63_0
      clear em41
      refine zw_R zr_96_39 (by decide) zm_96 (v := (9, 0)) rfl ?_
      rw [← hQ]; exact ⟨rfl, hIm41, hFm41⟩
theorem gr_96 (E : zE) : ∀ d, rs_96 E d := by
  intro d
  induction d with
  | zero => exact (by intro m0 a0 a1 hd; exfalso; omega)
  | succ d ih => exact tr_96 (d := d + 1) ih
theorem th_96 {E : zE} {d : Nat} {m0 : zM} {a0 : Int} {a1 : Int} (hd : (10 - a0).toNat + 4 ≤ d) (hI0 : zInv m0) (ha0 : 0 ≤ a0 ∧ a0 ≤ 10) (ha1 : (-2147483648) ≤ a1 ∧ a1 ≤ 2147483647) : zC E d 96 [(2, 63), (0, a0), (0, a1)] m0 (fun v m' => v = (9, 0) ∧ zInv m' ∧ zFr W_96 m0 m') := (gr_96 E d) m0 a0 a1 hd hI0 ha0 ha1

abbrev W_97 : List (Nat × Nat) := [(63, 0), (64, 1000), (65, 1000), (66, 1000), (67, 1000), (68, 1000)]
set_option maxHeartbeats 8000000 in
theorem th_97 {E : zE} {d : Nat} {m0 : zM} (hd : 15 ≤ d) (hI0 : zInv m0) : zC E d 97 [(2, 63)] m0 (fun v m' => v = (9, 0) ∧ zInv m' ∧ zFr W_97 m0 m') := by
  have hF0 : zFr W_97 m0 m0 := zFr.rfl
  generalize hQ : (fun (v : zV) (m' : zM) => v = (9, 0) ∧ zInv m' ∧ zFr W_97 m0 m') = Q
  show zW E d 97 0 [(2, 63)] [] m0 Q
  refine zw_7 zr_97_0 rfl ?_
  refine zw_C zr_97_1 (Or.inl rfl) zm_90 rfl rfl ⟨Nat.le_of_ble_eq_true rfl, Nat.le_of_ble_eq_true rfl, Nat.le_of_ble_eq_true rfl, rfl, by decide⟩ (by omega) (th_90 (d := d - 1) (by omega) hI0        ) ?_
  rintro _ m1 ⟨rfl, hIm1, gm1⟩
  have hFm1 : zFr W_97 m0 m1 := hF0.trans gm1 rfl
  show zW E (d) 97 4 [(2, 63)] [] m1 Q
  refine zw_7 zr_97_4 rfl ?_
  refine zw_C zr_97_5 (Or.inl rfl) zm_94 rfl rfl ⟨Nat.le_of_ble_eq_true rfl, Nat.le_of_ble_eq_true rfl, Nat.le_of_ble_eq_true rfl, rfl, by decide⟩ (by omega) (th_94 (d := d - 1) (by omega) hIm1        ) ?_
  rintro _ m2 ⟨rfl, hIm2, gm2⟩
  have hFm2 : zFr W_97 m0 m2 := hFm1.trans gm2 rfl
  show zW E (d) 97 8 [(2, 63)] [] m2 Q
  refine zw_7 zr_97_8 rfl ?_
  refine zw_push zr_97_9 ?_
  refine zw_47 (c := 63) zr_97_10 rfl ⟨rfl, by decide, rfl⟩ ?_
  intro m3 em3
  have hIm3 : zInv m3 := by rw [em3]; exact hIm2.any (by omega) rfl (by decide) (by decide)
  have hFm3 : zFr W_97 m0 m3 := by rw [em3]; exact hFm2.up rfl
  have km3_63_0 : m3 63 0 = (-1) := by rw [em3]; exact zUp_eq _ _ _ _
  clear em3
  refine zw_7 zr_97_13 rfl ?_
  refine zw_push zr_97_14 ?_
  refine zw_push zr_97_15 ?_
  refine zw_C zr_97_16 (Or.inl rfl) zm_96 rfl rfl ⟨Nat.le_of_ble_eq_true rfl, Nat.le_of_ble_eq_true rfl, Nat.le_of_ble_eq_true rfl, rfl, by decide⟩ (by omega) (th_96 (d := d - 1) (by omega) hIm3 (a0 := 0) (a1 := 0)      (by omega) (by omega) ) ?_
  rintro _ m4 ⟨rfl, hIm4, gm4⟩
  have hFm4 : zFr W_97 m0 m4 := hFm3.trans gm4 rfl
  show zW E (d) 97 19 [(2, 63)] [] m4 Q
  refine zw_R zr_97_19 (by decide) zm_97 (v := (9, 0)) rfl ?_
  rw [← hQ]; exact ⟨rfl, hIm4, hFm4⟩

abbrev W_125 : List (Nat × Nat) := [(63, 0), (64, 1000), (65, 1000), (66, 1000), (67, 1000), (68, 1000)]
set_option maxHeartbeats 8000000 in
theorem th_125 {E : zE} {d : Nat} {m0 : zM} {a0 : Int} (hd : 16 ≤ d) (hI0 : zInv m0) (ha0 : (-2147483648) ≤ a0 ∧ a0 ≤ 2147483647) : zC E d 125 [(2, 0), (0, a0)] m0 (fun v m' => ∃ r : Int, v = (0, r) ∧ (-2147483648) ≤ r ∧ r ≤ 2147483647 ∧ zInv m' ∧ zFr W_125 m0 m') := by
  have hF0 : zFr W_125 m0 m0 := zFr.rfl
  generalize hQ : (fun (v : zV) (m' : zM) => ∃ r : Int, v = (0, r) ∧ (-2147483648) ≤ r ∧ r ≤ 2147483647 ∧ zInv m' ∧ zFr W_125 m0 m') = Q
  show zW E d 125 0 [(2, 0), (0, a0)] [] m0 Q
  refine zw_3 zr_125_0 rfl ?_
  refine zw_push zr_125_1 ?_
  refine zw_41_1 zr_125_2 ?_ ?_
  · intro h1
    refine zw_7 zr_125_19 rfl ?_
    refine zw_46r (s := 63) zr_125_20 rfl rfl rfl rfl ?_
    refine zw_C zr_125_23 (Or.inl rfl) zm_97 rfl rfl ⟨Nat.le_of_ble_eq_true rfl, Nat.le_of_ble_eq_true rfl, Nat.le_of_ble_eq_true rfl, rfl, by decide⟩ (by omega) (th_97 (d := d - 1) (by omega) hI0        ) ?_
    rintro _ m2 ⟨rfl, hIm2, gm2⟩
    have hFm2 : zFr W_125 m0 m2 := hF0.trans gm2 rfl
    show zW E (d) 125 26 [(2, 0), (0, a0)] [] m2 Q
    refine zw_3 zr_125_26 rfl ?_
    refine zw_push zr_125_27 ?_
    refine zw_41_4 zr_125_28 ?_ ?_
    · intro h3; omega
    · intro h4
      refine zw_7 zr_125_31 rfl ?_
      refine zw_46r (s := 63) zr_125_32 rfl rfl rfl rfl ?_
      obtain ⟨f5, ef5⟩ : ∃ v, m2 63 0 = v := ⟨_, rfl⟩
      have bf5 := hIm2.fi (c := 63) (k := 0) rfl
      rw [ef5] at bf5
      refine zw_46i zr_125_35 ef5 rfl rfl rfl ?_
      refine zw_42 zr_125_38 ?_
      refine zw_R zr_125_50 (by decide) zm_125 (v := (0, f5)) rfl ?_
      rw [← hQ]; exact ⟨_, rfl, by omega, by omega, hIm2, hFm2⟩
  · intro h6
    refine zw_7 zr_125_5 rfl ?_
    refine zw_46r (s := 1) zr_125_6 rfl rfl rfl rfl ?_
    refine zw_3 zr_125_9 rfl ?_
    refine zw_C zr_125_10 (Or.inl rfl) zm_49 rfl rfl ⟨Nat.le_of_ble_eq_true rfl, Nat.le_of_ble_eq_true rfl, Nat.le_of_ble_eq_true rfl, rfl, by decide⟩ (by omega) (P := (fun v m' => zW E (d) 125 13 [(2, 0), (0, a0)] (if v.1 = 9 then [] else v :: []) m' Q)) ?_ (fun _ _ h => h)
    generalize hQ1 : (fun v m' => zW E (d) 125 13 [(2, 0), (0, a0)] (if v.1 = 9 then [] else v :: []) m' Q) = Q1
    show zW E (d - 1) 49 0 [(2, 1), (0, a0)] [] m0 Q1
    refine zw_3 zr_49_0 rfl ?_
    refine zw_40_0 zr_49_1 ?_ ?_
    · intro h7
      refine zw_push zr_49_16 ?_
      refine zw_R zr_49_17 (by decide) zm_49 (v := (0, 0)) (zRetB (by omega)) ?_
      rw [← hQ1]
      show zW E (d) 125 13 [(2, 0), (0, a0)] [(0, 0)] m0 Q
      refine zw_40_4 zr_125_13 ?_ ?_
      · intro h8; omega
      · intro h9
        refine zw_push zr_125_16 ?_
        refine zw_R zr_125_18 (by decide) zm_125 (v := (0, (-2))) rfl ?_
        rw [← hQ]; exact ⟨_, rfl, by omega, by omega, hI0, hF0⟩
    · intro h10
      refine zw_3 zr_49_4 rfl ?_
      refine zw_7 zr_49_5 rfl ?_
      obtain ⟨f11, ef11⟩ : ∃ v, m0 1 0 = v := ⟨_, rfl⟩
      have bf11 := ib_1_0 hI0
      rw [ef11] at bf11
      refine zw_46i zr_49_6 ef11 rfl rfl rfl ?_
      refine zw_41_3 zr_49_9 ?_ ?_
      · intro h12
        refine zw_push zr_49_16 ?_
        refine zw_R zr_49_17 (by decide) zm_49 (v := (0, 0)) (zRetB (by omega)) ?_
        rw [← hQ1]
        show zW E (d) 125 13 [(2, 0), (0, a0)] [(0, 0)] m0 Q
        refine zw_40_4 zr_125_13 ?_ ?_
        · intro h13; omega
        · intro h14
          refine zw_push zr_125_16 ?_
          refine zw_R zr_125_18 (by decide) zm_125 (v := (0, (-2))) rfl ?_
          rw [← hQ]; exact ⟨_, rfl, by omega, by omega, hI0, hF0⟩
      · intro h15
        refine zw_push zr_49_12 ?_
        refine zw_42 zr_49_13 ?_
        refine zw_R zr_49_17 (by decide) zm_49 (v := (0, 1)) (zRetB (by omega)) ?_
        rw [← hQ1]
        show zW E (d) 125 13 [(2, 0), (0, a0)] [(0, 1)] m0 Q
        refine zw_40_4 zr_125_13 ?_ ?_
        · intro h16
          refine zw_7 zr_125_19 rfl ?_
          refine zw_46r (s := 63) zr_125_20 rfl rfl rfl rfl ?_
          refine zw_C zr_125_23 (Or.inl rfl) zm_97 rfl rfl ⟨Nat.le_of_ble_eq_true rfl, Nat.le_of_ble_eq_true rfl, Nat.le_of_ble_eq_true rfl, rfl, by decide⟩ (by omega) (th_97 (d := d - 1) (by omega) hI0        ) ?_
          rintro _ m17 ⟨rfl, hIm17, gm17⟩
          have hFm17 : zFr W_125 m0 m17 := hF0.trans gm17 rfl
          have km17_1_0 : m17 1 0 = f11 := (gm17 1 0 rfl).trans ef11
          show zW E (d) 125 26 [(2, 0), (0, a0)] [] m17 Q
          refine zw_3 zr_125_26 rfl ?_
          refine zw_push zr_125_27 ?_
          refine zw_41_4 zr_125_28 ?_ ?_
          · intro h18
            refine zw_7 zr_125_41 rfl ?_
            refine zw_46r (s := 63) zr_125_42 rfl rfl rfl rfl ?_
            refine zw_46r (s := 64) zr_125_45 rfl rfl rfl rfl ?_
            refine zw_3 zr_125_48 rfl ?_
            refine zw_48 (c := 64) (len := 10) zr_125_49 rfl rfl (by omega) (by omega) ?_
            intro x19 ex19
            have bx19 := hIm17.ra (c := 64) (len := 10) (k := (a0).toNat) rfl (by omega)
            rw [← ex19] at bx19
            clear ex19
            refine zw_R zr_125_50 (by decide) zm_125 (v := (0, x19)) rfl ?_
            rw [← hQ]; exact ⟨_, rfl, by omega, by omega, hIm17, hFm17⟩
          · intro h20; omega
        · intro h21; omega
