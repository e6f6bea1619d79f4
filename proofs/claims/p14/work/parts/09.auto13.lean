abbrev W_199 : List (Nat × Nat) := [(83, 1000), (84, 1000)]
set_option maxHeartbeats 8000000 in
theorem th_199 {E : zE} {d : Nat} {m0 : zM} {a0 : Int} (hd : 3 ≤ d) (hI0 : zInv m0) (ha0 : (-2147483648) ≤ a0 ∧ a0 ≤ 2147483647) : zC E d 199 [(2, 69), (0, a0)] m0 (fun v m' => ∃ r : Int, v = (0, r) ∧ (-2) ≤ r ∧ r ≤ 2147483647 ∧ zInv m' ∧ zFr W_199 m0 m') := by
  have hF0 : zFr W_199 m0 m0 := zFr.rfl
  generalize hQ : (fun (v : zV) (m' : zM) => ∃ r : Int, v = (0, r) ∧ (-2) ≤ r ∧ r ≤ 2147483647 ∧ zInv m' ∧ zFr W_199 m0 m') = Q
  show zW E d 199 0 [(2, 69), (0, a0), (9, 0), (9, 0), (9, 0), (9, 0), (9, 0), (9, 0), (9, 0), (9, 0)] [] m0 Q
  refine zw_3 zr_199_0 rfl ?_
  refine zw_push zr_199_1 ?_
  refine zw_41_1 zr_199_2 ?_ ?_
  · intro h1
    refine zw_push zr_199_16 ?_
    refine zw_9 (L' := [(2, 69), (0, a0), (0, 0), (9, 0), (9, 0), (9, 0), (9, 0), (9, 0), (9, 0), (9, 0)]) zr_199_17 (Nat.le_of_ble_eq_true rfl) rfl ?_
    have lp18_4 : ∀ (nlp18_4 : Nat) (i2 : Int) (m3 : zM), zInv m3 → zFr W_199 m0 m3 → 0 ≤ i2 → i2 ≤ 100 → (100 - i2).toNat < nlp18_4 → zW E (d) 199 18 [(2, 69), (0, a0), (0, i2), (9, 0), (9, 0), (9, 0), (9, 0), (9, 0), (9, 0), (9, 0)] [] m3 Q := by
      intro nlp18_4
      induction nlp18_4 with
      | zero =>
        intros
        exact absurd (by assumption : _ < 0) (Nat.not_lt_zero _)
      | succ nlp18_4 ihlp18_4 =>
        intro i2 m3 hIm3 hFm3 li2 ui2 hmlp18_4
        refine zw_3 zr_199_18 rfl ?_
        refine zw_push zr_199_19 ?_
        refine zw_41_3 zr_199_21 ?_ ?_
        · intro h6
          refine zw_push zr_199_37 ?_
          refine zw_9 (L' := [(2, 69), (0, a0), (0, 0), (9, 0), (9, 0), (9, 0), (9, 0), (9, 0), (9, 0), (9, 0)]) zr_199_38 (Nat.le_of_ble_eq_true rfl) rfl ?_
          have lp39_9 : ∀ (nlp39_9 : Nat) (i7 : Int) (m8 : zM), zInv m8 → zFr W_199 m0 m8 → 0 ≤ i7 → i7 ≤ 60 → (60 - i7).toNat < nlp39_9 → zW E (d) 199 39 [(2, 69), (0, a0), (0, i7), (9, 0), (9, 0), (9, 0), (9, 0), (9, 0), (9, 0), (9, 0)] [] m8 Q := by
            intro nlp39_9
            induction nlp39_9 with
            | zero =>
              intros
              exact absurd (by assumption : _ < 0) (Nat.not_lt_zero _)
            | succ nlp39_9 ihlp39_9 =>
              intro i7 m8 hIm8 hFm8 li7 ui7 hmlp39_9
              refine zw_3 zr_199_39 rfl ?_
              refine zw_7 zr_199_40 rfl ?_
              refine zw_C zr_199_41 (Or.inl rfl) zm_142 rfl rfl ⟨Nat.le_of_ble_eq_true rfl, Nat.le_of_ble_eq_true rfl, Nat.le_of_ble_eq_true rfl, rfl, by decide⟩ (by omega) (P := (fun v m' => zW E (d) 199 44 [(2, 69), (0, a0), (0, i7), (9, 0), (9, 0), (9, 0), (9, 0), (9, 0), (9, 0), (9, 0)] (if v.1 = 9 then [(0, i7)] else v :: [(0, i7)]) m' Q)) ?_ (fun _ _ h => h)
              generalize hQ1 : (fun v m' => zW E (d) 199 44 [(2, 69), (0, a0), (0, i7), (9, 0), (9, 0), (9, 0), (9, 0), (9, 0), (9, 0), (9, 0)] (if v.1 = 9 then [(0, i7)] else v :: [(0, i7)]) m' Q) = Q1
              show zW E (d - 1) 142 0 [(2, 69)] [] m8 Q1
              refine zw_7 zr_142_0 rfl ?_
              refine zw_46r (s := 70) zr_142_1 rfl rfl rfl rfl ?_
              refine zw_push zr_142_4 ?_
              obtain ⟨f11, ef11⟩ : ∃ v, m8 70 823 = v := ⟨_, rfl⟩
              have bf11 : 0 ≤ m8 70 823 ∧ m8 70 823 ≤ 60 := ib_70_meetings hIm8 (by omega)
              rw [ef11] at bf11
              refine zw_48k (c := 70) (len := 826) zr_142_7 rfl rfl (by omega) (by omega) (show (823 : Int).toNat = 823 by omega) ef11 ?_
              refine zw_R zr_142_8 (by decide) zm_142 (v := (0, f11)) rfl ?_
              rw [← hQ1]
              show zW E (d) 199 44 [(2, 69), (0, a0), (0, i7), (9, 0), (9, 0), (9, 0), (9, 0), (9, 0), (9, 0), (9, 0)] [(0, f11), (0, i7)] m8 Q
              refine zw_41_3 zr_199_44 ?_ ?_
              · intro h12
                refine zw_push zr_199_127 ?_
                refine zw_9 (L' := [(2, 69), (0, a0), (0, 1), (9, 0), (9, 0), (9, 0), (9, 0), (9, 0), (9, 0), (9, 0)]) zr_199_128 (Nat.le_of_ble_eq_true rfl) rfl ?_
                refine zw_push zr_199_129 ?_
                refine zw_9 (L' := [(2, 69), (0, a0), (0, 1), (0, 0), (9, 0), (9, 0), (9, 0), (9, 0), (9, 0), (9, 0)]) zr_199_130 (Nat.le_of_ble_eq_true rfl) rfl ?_
                have lp131_16 : ∀ (nlp131_16 : Nat) (i13 i14 : Int) (m15 : zM), zInv m15 → zFr W_199 m0 m15 → m15 70 823 = f11 → (-2147483648) ≤ i13 → i13 ≤ 2147483647 → 0 ≤ i14 → i14 ≤ 10 → (10 - i14).toNat < nlp131_16 → zW E (d) 199 131 [(2, 69), (0, a0), (0, i13), (0, i14), (9, 0), (9, 0), (9, 0), (9, 0), (9, 0), (9, 0)] [] m15 Q := by
                  intro nlp131_16
                  induction nlp131_16 with
                  | zero =>
                    intros
                    exact absurd (by assumption : _ < 0) (Nat.not_lt_zero _)
                  | succ nlp131_16 ihlp131_16 =>
                    intro i13 i14 m15 hIm15 hFm15 km15_70_823 li13 ui13 li14 ui14 hmlp131_16
                    refine zw_3 zr_199_131 rfl ?_
                    refine zw_7 zr_199_132 rfl ?_
                    refine zw_C zr_199_133 (Or.inl rfl) zm_141 rfl rfl ⟨Nat.le_of_ble_eq_true rfl, Nat.le_of_ble_eq_true rfl, Nat.le_of_ble_eq_true rfl, rfl, by decide⟩ (by omega) (P := (fun v m' => zW E (d) 199 136 [(2, 69), (0, a0), (0, i13), (0, i14), (9, 0), (9, 0), (9, 0), (9, 0), (9, 0), (9, 0)] (if v.1 = 9 then [(0, i14)] else v :: [(0, i14)]) m' Q)) ?_ (fun _ _ h => h)
                    generalize hQ1 : (fun v m' => zW E (d) 199 136 [(2, 69), (0, a0), (0, i13), (0, i14), (9, 0), (9, 0), (9, 0), (9, 0), (9, 0), (9, 0)] (if v.1 = 9 then [(0, i14)] else v :: [(0, i14)]) m' Q) = Q1
                    show zW E (d - 1) 141 0 [(2, 69)] [] m15 Q1
                    refine zw_7 zr_141_0 rfl ?_
                    refine zw_46r (s := 70) zr_141_1 rfl rfl rfl rfl ?_
                    refine zw_push zr_141_4 ?_
                    obtain ⟨f18, ef18⟩ : ∃ v, m15 70 822 = v := ⟨_, rfl⟩
                    have bf18 : 0 ≤ m15 70 822 ∧ m15 70 822 ≤ 10 := ib_70_players hIm15 (by omega)
                    rw [ef18] at bf18
                    refine zw_48k (c := 70) (len := 826) zr_141_7 rfl rfl (by omega) (by omega) (show (822 : Int).toNat = 822 by omega) ef18 ?_
                    refine zw_R zr_141_8 (by decide) zm_141 (v := (0, f18)) rfl ?_
                    rw [← hQ1]
                    show zW E (d) 199 136 [(2, 69), (0, a0), (0, i13), (0, i14), (9, 0), (9, 0), (9, 0), (9, 0), (9, 0), (9, 0)] [(0, f18), (0, i14)] m15 Q
                    refine zw_41_3 zr_199_136 ?_ ?_
                    · intro h19
                      refine zw_push zr_199_149 ?_
                      refine zw_9 (L' := [(2, 69), (0, a0), (0, i13), (0, 0), (9, 0), (9, 0), (9, 0), (9, 0), (9, 0), (9, 0)]) zr_199_150 (Nat.le_of_ble_eq_true rfl) rfl ?_
                      refine zw_push zr_199_151 ?_
                      refine zw_10 (L' := [(2, 69), (0, a0), (0, i13), (0, 0), (0, (-1)), (9, 0), (9, 0), (9, 0), (9, 0), (9, 0)]) zr_199_152 (Nat.le_of_ble_eq_true rfl) rfl ?_
                      refine zw_push zr_199_154 ?_
                      refine zw_10 (L' := [(2, 69), (0, a0), (0, i13), (0, 0), (0, (-1)), (0, 0), (9, 0), (9, 0), (9, 0), (9, 0)]) zr_199_155 (Nat.le_of_ble_eq_true rfl) rfl ?_
                      have lp157_24 : ∀ (nlp157_24 : Nat) (i20 i21 i22 : Int) (m23 : zM), zInv m23 → zFr W_199 m0 m23 → m23 70 823 = f11 → m23 70 822 = f18 → 0 ≤ i20 → i20 ≤ 2147483647 → (-1) ≤ i21 → i21 ≤ 2147483647 → 0 ≤ i22 → i22 ≤ 2147483647 → (2147483647 - i22).toNat < nlp157_24 → zW E (d) 199 157 [(2, 69), (0, a0), (0, i13), (0, i20), (0, i21), (0, i22), (9, 0), (9, 0), (9, 0), (9, 0)] [] m23 Q := by
                        intro nlp157_24
                        induction nlp157_24 with
                        | zero =>
                          intros
                          exact absurd (by assumption : _ < 0) (Nat.not_lt_zero _)
                        | succ nlp157_24 ihlp157_24 =>
                          intro i20 i21 i22 m23 hIm23 hFm23 km23_70_823 km23_70_822 li20 ui20 li21 ui21 li22 ui22 hmlp157_24
                          refine zw_4 zr_199_157 rfl ?_
                          refine zw_3 zr_199_159 rfl ?_
                          refine zw_41_3 zr_199_160 ?_ ?_
                          · intro h26
                            refine zw_3 zr_199_321 rfl ?_
                            refine zw_push zr_199_322 ?_
                            refine zw_41_4 zr_199_323 ?_ ?_
                            · intro h27; omega
                            · intro h28
                              refine zw_4 zr_199_326 rfl ?_
                              refine zw_R zr_199_328 (by decide) zm_199 (v := (0, i21)) rfl ?_
                              rw [← hQ]; exact ⟨_, rfl, by omega, by omega, hIm23, hFm23⟩
                          · intro h29
                            refine zw_4 zr_199_163 rfl ?_
                            refine zw_10 (L' := [(2, 69), (0, a0), (0, i13), (0, i20), (0, i21), (0, i22), (0, i22), (9, 0), (9, 0), (9, 0)]) zr_199_165 (Nat.le_of_ble_eq_true rfl) rfl ?_
                            refine zw_7 zr_199_167 rfl ?_
                            refine zw_C zr_199_168 (Or.inl rfl) zm_141 rfl rfl ⟨Nat.le_of_ble_eq_true rfl, Nat.le_of_ble_eq_true rfl, Nat.le_of_ble_eq_true rfl, rfl, by decide⟩ (by omega) (P := (fun v m' => zW E (d) 199 171 [(2, 69), (0, a0), (0, i13), (0, i20), (0, i21), (0, i22), (0, i22), (9, 0), (9, 0), (9, 0)] (if v.1 = 9 then [] else v :: []) m' Q)) ?_ (fun _ _ h => h)
                            generalize hQ1 : (fun v m' => zW E (d) 199 171 [(2, 69), (0, a0), (0, i13), (0, i20), (0, i21), (0, i22), (0, i22), (9, 0), (9, 0), (9, 0)] (if v.1 = 9 then [] else v :: []) m' Q) = Q1
                            show zW E (d - 1) 141 0 [(2, 69)] [] m23 Q1
                            refine zw_7 zr_141_0 rfl ?_
                            refine zw_46r (s := 70) zr_141_1 rfl rfl rfl rfl ?_
                            refine zw_push zr_141_4 ?_
                            refine zw_48k (c := 70) (len := 826) zr_141_7 rfl rfl (by omega) (by omega) (show (822 : Int).toNat = 822 by omega) km23_70_822 ?_
                            refine zw_R zr_141_8 (by decide) zm_141 (v := (0, f18)) rfl ?_
                            rw [← hQ1]
                            show zW E (d) 199 171 [(2, 69), (0, a0), (0, i13), (0, i20), (0, i21), (0, i22), (0, i22), (9, 0), (9, 0), (9, 0)] [(0, f18)] m23 Q
                            refine zw_push zr_199_171 ?_
                            refine zw_17 zr_199_172 (by omega) ?_
                            refine zw_10 (L' := [(2, 69), (0, a0), (0, i13), (0, i20), (0, i21), (0, i22), (0, i22), (0, (f18 - 1)), (9, 0), (9, 0)]) zr_199_173 (Nat.le_of_ble_eq_true rfl) rfl ?_
                            have lp175_33 : ∀ (nlp175_33 : Nat) (i30 i31 : Int) (m32 : zM), zInv m32 → zFr W_199 m0 m32 → m32 70 823 = f11 → m32 70 822 = f18 → 0 ≤ i30 → i30 ≤ 2147483647 → (-1) ≤ i31 → i31 ≤ 9 → (i31 - (-1)).toNat < nlp175_33 → zW E (d) 199 175 [(2, 69), (0, a0), (0, i13), (0, i20), (0, i21), (0, i22), (0, i30), (0, i31), (9, 0), (9, 0)] [] m32 Q := by
                              intro nlp175_33
                              induction nlp175_33 with
                              | zero =>
                                intros
                                exact absurd (by assumption : _ < 0) (Nat.not_lt_zero _)
                              | succ nlp175_33 ihlp175_33 =>
                                intro i30 i31 m32 hIm32 hFm32 km32_70_823 km32_70_822 li30 ui30 li31 ui31 hmlp175_33
                                refine zw_4 zr_199_175 rfl ?_
                                refine zw_40_0 zr_199_177 ?_ ?_
                                · intro h35
                                  refine zw_push zr_199_203 ?_
                                  refine zw_10 (L' := [(2, 69), (0, a0), (0, i13), (0, i20), (0, i21), (0, i22), (0, i30), (0, 0), (9, 0), (9, 0)]) zr_199_204 (Nat.le_of_ble_eq_true rfl) rfl ?_
                                  refine zw_push zr_199_206 ?_
                                  refine zw_10 (L' := [(2, 69), (0, a0), (0, i13), (0, i20), (0, i21), (0, i22), (0, i30), (0, 0), (0, 0), (9, 0)]) zr_199_207 (Nat.le_of_ble_eq_true rfl) rfl ?_
                                  have lp209_38 : ∀ (nlp209_38 : Nat) (i36 i37 : Int), (-2147483648) ≤ i36 → i36 ≤ 2147483647 → 0 ≤ i37 → i37 ≤ 10 → (10 - i37).toNat < nlp209_38 → zW E (d) 199 209 [(2, 69), (0, a0), (0, i13), (0, i20), (0, i21), (0, i22), (0, i30), (0, i36), (0, i37), (9, 0)] [] m32 Q := by
                                    intro nlp209_38
                                    induction nlp209_38 with
                                    | zero =>
                                      intros
                                      exact absurd (by assumption : _ < 0) (Nat.not_lt_zero _)
                                    | succ nlp209_38 ihlp209_38 =>
                                      intro i36 i37 li36 ui36 li37 ui37 hmlp209_38
                                      refine zw_4 zr_199_209 rfl ?_
                                      refine zw_7 zr_199_211 rfl ?_
                                      refine zw_C zr_199_212 (Or.inl rfl) zm_141 rfl rfl ⟨Nat.le_of_ble_eq_true rfl, Nat.le_of_ble_eq_true rfl, Nat.le_of_ble_eq_true rfl, rfl, by decide⟩ (by omega) (P := (fun v m' => zW E (d) 199 215 [(2, 69), (0, a0), (0, i13), (0, i20), (0, i21), (0, i22), (0, i30), (0, i36), (0, i37), (9, 0)] (if v.1 = 9 then [(0, i37)] else v :: [(0, i37)]) m' Q)) ?_ (fun _ _ h => h)
                                      generalize hQ1 : (fun v m' => zW E (d) 199 215 [(2, 69), (0, a0), (0, i13), (0, i20), (0, i21), (0, i22), (0, i30), (0, i36), (0, i37), (9, 0)] (if v.1 = 9 then [(0, i37)] else v :: [(0, i37)]) m' Q) = Q1
                                      show zW E (d - 1) 141 0 [(2, 69)] [] m32 Q1
                                      refine zw_7 zr_141_0 rfl ?_
                                      refine zw_46r (s := 70) zr_141_1 rfl rfl rfl rfl ?_
                                      refine zw_push zr_141_4 ?_
                                      refine zw_48k (c := 70) (len := 826) zr_141_7 rfl rfl (by omega) (by omega) (show (822 : Int).toNat = 822 by omega) km32_70_822 ?_
                                      refine zw_R zr_141_8 (by decide) zm_141 (v := (0, f18)) rfl ?_
                                      rw [← hQ1]
                                      show zW E (d) 199 215 [(2, 69), (0, a0), (0, i13), (0, i20), (0, i21), (0, i22), (0, i30), (0, i36), (0, i37), (9, 0)] [(0, f18), (0, i37)] m32 Q
                                      refine zw_41_3 zr_199_215 ?_ ?_
                                      · intro h40
                                        refine zw_4 zr_199_285 rfl ?_
                                        refine zw_4 zr_199_287 rfl ?_
                                        refine zw_41_5 zr_199_289 ?_ ?_
                                        · intro h41
                                          refine zw_3 zr_199_297 rfl ?_
                                          refine zw_9 (L' := [(2, 69), (0, a0), (0, i13), (0, i20), (0, i21), (0, i22), (0, i30), (0, i36), (0, i37), (9, 0)]) zr_199_298 (Nat.le_of_ble_eq_true rfl) rfl ?_
                                          refine zw_4 zr_199_299 rfl ?_
                                          refine zw_4 zr_199_301 rfl ?_
                                          refine zw_41_5 zr_199_303 ?_ ?_
                                          · intro h42
                                            refine zw_4 zr_199_311 rfl ?_
                                            refine zw_10 (L' := [(2, 69), (0, a0), (0, i13), (0, i20), (0, i21), (0, i22), (0, i30), (0, i36), (0, i37), (9, 0)]) zr_199_313 (Nat.le_of_ble_eq_true rfl) rfl ?_
                                            refine zw_15 (c := 1) (L' := [(2, 69), (0, a0), (0, i13), (0, i20), (0, i21), (0, (i22 + 1)), (0, i30), (0, i36), (0, i37), (9, 0)]) zr_199_315 rfl (by decide) (by omega) rfl ?_
                                            refine zw_42 zr_199_318 ?_
                                            exact zw_less (L := [(2, 69), (0, a0), (0, i13), (0, i20), (0, i21), (0, (i22 + 1)), (9, 0), (9, 0), (9, 0), (9, 0)]) ⟨Or.inr rfl, Or.inr rfl, Or.inr rfl, Or.inr rfl, Or.inr rfl, Or.inr rfl, Or.inl rfl, Or.inl rfl, Or.inl rfl, Or.inl rfl, trivial⟩ (ihlp157_24 (i20) (i21) ((i22 + 1)) m32 hIm32 hFm32  km32_70_823 km32_70_822 (by omega) (by omega) (by omega) (by omega) (by omega) (by omega)  (by omega))
                                          · intro h43
                                            refine zw_4 zr_199_306 rfl ?_
                                            refine zw_42 zr_199_308 ?_
                                            refine zw_10 (L' := [(2, 69), (0, a0), (0, i13), (0, i20), (0, i36), (0, i22), (0, i30), (0, i36), (0, i37), (9, 0)]) zr_199_313 (Nat.le_of_ble_eq_true rfl) rfl ?_
                                            refine zw_15 (c := 1) (L' := [(2, 69), (0, a0), (0, i13), (0, i20), (0, i36), (0, (i22 + 1)), (0, i30), (0, i36), (0, i37), (9, 0)]) zr_199_315 rfl (by decide) (by omega) rfl ?_
                                            refine zw_42 zr_199_318 ?_
                                            exact zw_less (L := [(2, 69), (0, a0), (0, i13), (0, i20), (0, i36), (0, (i22 + 1)), (9, 0), (9, 0), (9, 0), (9, 0)]) ⟨Or.inr rfl, Or.inr rfl, Or.inr rfl, Or.inr rfl, Or.inr rfl, Or.inr rfl, Or.inl rfl, Or.inl rfl, Or.inl rfl, Or.inl rfl, trivial⟩ (ihlp157_24 (i20) (i36) ((i22 + 1)) m32 hIm32 hFm32  km32_70_823 km32_70_822 (by omega) (by omega) (by omega) (by omega) (by omega) (by omega)  (by omega))
                                        · intro h44
                                          refine zw_4 zr_199_292 rfl ?_
                                          refine zw_42 zr_199_294 ?_
                                          refine zw_9 (L' := [(2, 69), (0, a0), (0, i13), (0, i22), (0, i21), (0, i22), (0, i30), (0, i36), (0, i37), (9, 0)]) zr_199_298 (Nat.le_of_ble_eq_true rfl) rfl ?_
                                          refine zw_4 zr_199_299 rfl ?_
                                          refine zw_4 zr_199_301 rfl ?_
                                          refine zw_41_5 zr_199_303 ?_ ?_
                                          · intro h45
                                            refine zw_4 zr_199_311 rfl ?_
                                            refine zw_10 (L' := [(2, 69), (0, a0), (0, i13), (0, i22), (0, i21), (0, i22), (0, i30), (0, i36), (0, i37), (9, 0)]) zr_199_313 (Nat.le_of_ble_eq_true rfl) rfl ?_
                                            refine zw_15 (c := 1) (L' := [(2, 69), (0, a0), (0, i13), (0, i22), (0, i21), (0, (i22 + 1)), (0, i30), (0, i36), (0, i37), (9, 0)]) zr_199_315 rfl (by decide) (by omega) rfl ?_
                                            refine zw_42 zr_199_318 ?_
                                            exact zw_less (L := [(2, 69), (0, a0), (0, i13), (0, i22), (0, i21), (0, (i22 + 1)), (9, 0), (9, 0), (9, 0), (9, 0)]) ⟨Or.inr rfl, Or.inr rfl, Or.inr rfl, Or.inr rfl, Or.inr rfl, Or.inr rfl, Or.inl rfl, Or.inl rfl, Or.inl rfl, Or.inl rfl, trivial⟩ (ihlp157_24 (i22) (i21) ((i22 + 1)) m32 hIm32 hFm32  km32_70_823 km32_70_822 (by omega) (by omega) (by omega) (by omega) (by omega) (by omega)  (by omega))
                                          · intro h46
                                            refine zw_4 zr_199_306 rfl ?_
                                            refine zw_42 zr_199_308 ?_
                                            refine zw_10 (L' := [(2, 69), (0, a0), (0, i13), (0, i22), (0, i36), (0, i22), (0, i30), (0, i36), (0, i37), (9, 0)]) zr_199_313 (Nat.le_of_ble_eq_true rfl) rfl ?_
                                            refine zw_15 (c := 1) (L' := [(2, 69), (0, a0), (0, i13), (0, i22), (0, i36), (0, (i22 + 1)), (0, i30), (0, i36), (0, i37), (9, 0)]) zr_199_315 rfl (by decide) (by omega) rfl ?_
                                            refine zw_42 zr_199_318 ?_
                                            exact zw_less (L := [(2, 69), (0, a0), (0, i13), (0, i22), (0, i36), (0, (i22 + 1)), (9, 0), (9, 0), (9, 0), (9, 0)]) ⟨Or.inr rfl, Or.inr rfl, Or.inr rfl, Or.inr rfl, Or.inr rfl, Or.inr rfl, Or.inl rfl, Or.inl rfl, Or.inl rfl, Or.inl rfl, trivial⟩ (ihlp157_24 (i22) (i36) ((i22 + 1)) m32 hIm32 hFm32  km32_70_823 km32_70_822 (by omega) (by omega) (by omega) (by omega) (by omega) (by omega)  (by omega))
                                      · intro h47
                                        refine zw_push zr_199_218 ?_
                                        refine zw_10 (L' := [(2, 69), (0, a0), (0, i13), (0, i20), (0, i21), (0, i22), (0, i30), (0, i36), (0, i37), (0, 0)]) zr_199_219 (Nat.le_of_ble_eq_true rfl) rfl ?_
                                        have lp221_50 : ∀ (nlp221_50 : Nat) (i48 i49 : Int), (-2147483648) ≤ i48 → i48 ≤ 2147483647 → 0 ≤ i49 → i49 ≤ 10 → (10 - i49).toNat < nlp221_50 → zW E (d) 199 221 [(2, 69), (0, a0), (0, i13), (0, i20), (0, i21), (0, i22), (0, i30), (0, i48), (0, i37), (0, i49)] [] m32 Q := by
                                          intro nlp221_50
                                          induction nlp221_50 with
                                          | zero =>
                                            intros
                                            exact absurd (by assumption : _ < 0) (Nat.not_lt_zero _)
                                          | succ nlp221_50 ihlp221_50 =>
                                            intro i48 i49 li48 ui48 li49 ui49 hmlp221_50
                                            refine zw_4 zr_199_221 rfl ?_
                                            refine zw_7 zr_199_223 rfl ?_
                                            refine zw_C zr_199_224 (Or.inl rfl) zm_141 rfl rfl ⟨Nat.le_of_ble_eq_true rfl, Nat.le_of_ble_eq_true rfl, Nat.le_of_ble_eq_true rfl, rfl, by decide⟩ (by omega) (P := (fun v m' => zW E (d) 199 227 [(2, 69), (0, a0), (0, i13), (0, i20), (0, i21), (0, i22), (0, i30), (0, i48), (0, i37), (0, i49)] (if v.1 = 9 then [(0, i49)] else v :: [(0, i49)]) m' Q)) ?_ (fun _ _ h => h)
                                            generalize hQ1 : (fun v m' => zW E (d) 199 227 [(2, 69), (0, a0), (0, i13), (0, i20), (0, i21), (0, i22), (0, i30), (0, i48), (0, i37), (0, i49)] (if v.1 = 9 then [(0, i49)] else v :: [(0, i49)]) m' Q) = Q1
                                            show zW E (d - 1) 141 0 [(2, 69)] [] m32 Q1
                                            refine zw_7 zr_141_0 rfl ?_
                                            refine zw_46r (s := 70) zr_141_1 rfl rfl rfl rfl ?_
                                            refine zw_push zr_141_4 ?_
                                            refine zw_48k (c := 70) (len := 826) zr_141_7 rfl rfl (by omega) (by omega) (show (822 : Int).toNat = 822 by omega) km32_70_822 ?_
                                            refine zw_R zr_141_8 (by decide) zm_141 (v := (0, f18)) rfl ?_
                                            rw [← hQ1]
                                            show zW E (d) 199 227 [(2, 69), (0, a0), (0, i13), (0, i20), (0, i21), (0, i22), (0, i30), (0, i48), (0, i37), (0, i49)] [(0, f18), (0, i49)] m32 Q
                                            refine zw_41_3 zr_199_227 ?_ ?_
                                            · intro h52
                                              refine zw_15 (c := 1) (L' := [(2, 69), (0, a0), (0, i13), (0, i20), (0, i21), (0, i22), (0, i30), (0, i48), (0, (i37 + 1)), (0, i49)]) zr_199_279 rfl (by decide) (by omega) rfl ?_
                                              refine zw_42 zr_199_282 ?_
                                              exact zw_less (L := [(2, 69), (0, a0), (0, i13), (0, i20), (0, i21), (0, i22), (0, i30), (0, i48), (0, (i37 + 1)), (9, 0)]) ⟨Or.inr rfl, Or.inr rfl, Or.inr rfl, Or.inr rfl, Or.inr rfl, Or.inr rfl, Or.inr rfl, Or.inr rfl, Or.inr rfl, Or.inl rfl, trivial⟩ (ihlp209_38 (i48) ((i37 + 1))  (by omega) (by omega) (by omega) (by omega)  (by omega))
                                            · intro h53
                                              refine zw_4 zr_199_230 rfl ?_
                                              refine zw_7 zr_199_232 rfl ?_
                                              refine zw_46r (s := 84) zr_199_233 rfl rfl rfl rfl ?_
                                              refine zw_4 zr_199_236 rfl ?_
                                              refine zw_48 (c := 84) (len := 10) zr_199_238 rfl rfl (by omega) (by omega) ?_
                                              intro x54 ex54
                                              have bx54 := hIm32.ra (c := 84) (len := 10) (k := (i37).toNat) rfl (by omega)
                                              rw [← ex54] at bx54
                                              clear ex54
                                              refine zw_push zr_199_239 ?_
                                              refine zw_16h zr_199_240 ?_
                                              intro x55 hx55a hx55b
                                              refine zw_push zr_199_241 ?_
                                              refine zw_20h zr_199_242 (by omega) ?_
                                              intro x56 hx56a hx56b
                                              refine zw_7 zr_199_243 rfl ?_
                                              refine zw_46r (s := 84) zr_199_244 rfl rfl rfl rfl ?_
                                              refine zw_4 zr_199_247 rfl ?_
                                              refine zw_48 (c := 84) (len := 10) zr_199_249 rfl rfl (by omega) (by omega) ?_
                                              intro x57 ex57
                                              have bx57 := hIm32.ra (c := 84) (len := 10) (k := (i49).toNat) rfl (by omega)
                                              rw [← ex57] at bx57
                                              clear ex57
                                              refine zw_41_4 zr_199_250 ?_ ?_
                                              · intro h58
                                                refine zw_push zr_199_269 ?_
                                                refine zw_16 zr_199_270 (by omega) ?_
                                                refine zw_10 (L' := [(2, 69), (0, a0), (0, i13), (0, i20), (0, i21), (0, i22), (0, i30), (0, (i48 + 0)), (0, i37), (0, i49)]) zr_199_271 (Nat.le_of_ble_eq_true rfl) rfl ?_
                                                refine zw_15 (c := 1) (L' := [(2, 69), (0, a0), (0, i13), (0, i20), (0, i21), (0, i22), (0, i30), (0, (i48 + 0)), (0, i37), (0, (i49 + 1))]) zr_199_273 rfl (by decide) (by omega) rfl ?_
                                                refine zw_42 zr_199_276 ?_
                                                exact zw_less (L := [(2, 69), (0, a0), (0, i13), (0, i20), (0, i21), (0, i22), (0, i30), (0, (i48 + 0)), (0, i37), (0, (i49 + 1))]) ⟨Or.inr rfl, Or.inr rfl, Or.inr rfl, Or.inr rfl, Or.inr rfl, Or.inr rfl, Or.inr rfl, Or.inr rfl, Or.inr rfl, Or.inr rfl, trivial⟩ (ihlp221_50 ((i48 + 0)) ((i49 + 1))  (by omega) (by omega) (by omega) (by omega)  (by omega))
                                              · intro h59
                                                refine zw_7 zr_199_253 rfl ?_
                                                refine zw_46r (s := 83) zr_199_254 rfl rfl rfl rfl ?_
                                                refine zw_push zr_199_257 ?_
                                                refine zw_4 zr_199_259 rfl ?_
                                                refine zw_18 zr_199_261 (by omega) ?_
                                                refine zw_4 zr_199_262 rfl ?_
                                                refine zw_16 zr_199_264 (by omega) ?_
                                                refine zw_48 (c := 83) (len := 100) zr_199_265 rfl rfl (by omega) (by omega) ?_
                                                intro x60 ex60
                                                have bx60 := hIm32.ra (c := 83) (len := 100) (k := (((10 * i37) + i49)).toNat) rfl (by omega)
                                                rw [← ex60] at bx60
                                                clear ex60
                                                refine zw_42 zr_199_266 ?_
                                                refine zw_16h zr_199_270 ?_
                                                intro x61 hx61a hx61b
                                                refine zw_10 (L' := [(2, 69), (0, a0), (0, i13), (0, i20), (0, i21), (0, i22), (0, i30), (0, x61), (0, i37), (0, i49)]) zr_199_271 (Nat.le_of_ble_eq_true rfl) rfl ?_
                                                refine zw_15 (c := 1) (L' := [(2, 69), (0, a0), (0, i13), (0, i20), (0, i21), (0, i22), (0, i30), (0, x61), (0, i37), (0, (i49 + 1))]) zr_199_273 rfl (by decide) (by omega) rfl ?_
                                                refine zw_42 zr_199_276 ?_
                                                exact zw_less (L := [(2, 69), (0, a0), (0, i13), (0, i20), (0, i21), (0, i22), (0, i30), (0, x61), (0, i37), (0, (i49 + 1))]) ⟨Or.inr rfl, Or.inr rfl, Or.inr rfl, Or.inr rfl, Or.inr rfl, Or.inr rfl, Or.inr rfl, Or.inr rfl, Or.inr rfl, Or.inr rfl, trivial⟩ (ihlp221_50 (x61) ((i49 + 1))  (by omega) (by omega) (by omega) (by omega)  (by omega))
                                        exact lp221_50 _ (i36) (0)  (by omega) (by omega) (by omega) (by omega)  (Nat.lt_succ_self _)
                                  exact lp209_38 _ (0) (0)  (by omega) (by omega) (by omega) (by omega)  (Nat.lt_succ_self _)
                                · intro h62
                                  refine zw_7 zr_199_180 rfl ?_
                                  refine zw_46r (s := 84) zr_199_181 rfl rfl rfl rfl ?_
                                  refine zw_4 zr_199_184 rfl ?_
                                  refine zw_4 zr_199_186 rfl ?_
                                  refine zw_push zr_199_188 ?_
                                  refine zw_20 zr_199_189 (by omega) (by omega) (by omega) (by omega) ?_
                                  refine zw_49 (c := 84) (len := 10) zr_199_190 rfl rfl (by omega) (by omega) ?_
                                  intro m63 em63
                                  have hIm63 : zInv m63 := by rw [em63]; exact hIm32.any (by omega) rfl (by decide) (by decide)
                                  have hFm63 : zFr W_199 m0 m63 := by rw [em63]; exact hFm32.any rfl
                                  have km63_70_823 : m63 70 823 = f11 := by rw [em63, zUp_ne (by omega)]; exact km32_70_823
                                  have km63_70_822 : m63 70 822 = f18 := by rw [em63, zUp_ne (by omega)]; exact km32_70_822
                                  clear em63
                                  refine zw_4 zr_199_191 rfl ?_
                                  refine zw_push zr_199_193 ?_
                                  refine zw_19 zr_199_194 (by omega) (by omega) (by omega) (by omega) ?_
                                  refine zw_10 (L' := [(2, 69), (0, a0), (0, i13), (0, i20), (0, i21), (0, i22), (0, (i30 / 3)), (0, i31), (9, 0), (9, 0)]) zr_199_195 (Nat.le_of_ble_eq_true rfl) rfl ?_
                                  refine zw_15 (c := (-1)) (L' := [(2, 69), (0, a0), (0, i13), (0, i20), (0, i21), (0, i22), (0, (i30 / 3)), (0, (i31 + (-1))), (9, 0), (9, 0)]) zr_199_197 rfl (by decide) (by omega) rfl ?_
                                  refine zw_42 zr_199_200 ?_
                                  exact zw_less (L := [(2, 69), (0, a0), (0, i13), (0, i20), (0, i21), (0, i22), (0, (i30 / 3)), (0, (i31 + (-1))), (9, 0), (9, 0)]) ⟨Or.inr rfl, Or.inr rfl, Or.inr rfl, Or.inr rfl, Or.inr rfl, Or.inr rfl, Or.inr rfl, Or.inr rfl, Or.inl rfl, Or.inl rfl, trivial⟩ (ihlp175_33 ((i30 / 3)) ((i31 + (-1))) m63 hIm63 hFm63  km63_70_823 km63_70_822 (by omega) (by omega) (by omega) (by omega)  (by omega))
                            exact lp175_33 _ (i22) ((f18 - 1)) m23 hIm23 hFm23  km23_70_823 km23_70_822 (by omega) (by omega) (by omega) (by omega)  (Nat.lt_succ_self _)
                      exact lp157_24 _ (0) ((-1)) (0) m15 hIm15 hFm15  km15_70_823 ef18 (by omega) (by omega) (by omega) (by omega) (by omega) (by omega)  (Nat.lt_succ_self _)
                    · intro h64
                      refine zw_3 zr_199_139 rfl ?_
                      refine zw_push zr_199_140 ?_
                      refine zw_18h zr_199_141 ?_
                      intro x65 hx65a hx65b
                      refine zw_9 (L' := [(2, 69), (0, a0), (0, x65), (0, i14), (9, 0), (9, 0), (9, 0), (9, 0), (9, 0), (9, 0)]) zr_199_142 (Nat.le_of_ble_eq_true rfl) rfl ?_
                      refine zw_15 (c := 1) (L' := [(2, 69), (0, a0), (0, x65), (0, (i14 + 1)), (9, 0), (9, 0), (9, 0), (9, 0), (9, 0), (9, 0)]) zr_199_143 rfl (by decide) (by omega) rfl ?_
                      refine zw_42 zr_199_146 ?_
                      exact zw_less (L := [(2, 69), (0, a0), (0, x65), (0, (i14 + 1)), (9, 0), (9, 0), (9, 0), (9, 0), (9, 0), (9, 0)]) ⟨Or.inr rfl, Or.inr rfl, Or.inr rfl, Or.inr rfl, Or.inl rfl, Or.inl rfl, Or.inl rfl, Or.inl rfl, Or.inl rfl, Or.inl rfl, trivial⟩ (ihlp131_16 (x65) ((i14 + 1)) m15 hIm15 hFm15  km15_70_823 (by omega) (by omega) (by omega) (by omega)  (by omega))
                exact lp131_16 _ (1) (0) m8 hIm8 hFm8  ef11 (by omega) (by omega) (by omega) (by omega)  (Nat.lt_succ_self _)
              · intro h66
                refine zw_7 zr_199_47 rfl ?_
                refine zw_3 zr_199_48 rfl ?_
                refine zw_push zr_199_49 ?_
                refine zw_C zr_199_50 (Or.inl rfl) zm_144 rfl rfl ⟨Nat.le_of_ble_eq_true rfl, Nat.le_of_ble_eq_true rfl, Nat.le_of_ble_eq_true rfl, rfl, by decide⟩ (by omega) (P := (fun v m' => zW E (d) 199 53 [(2, 69), (0, a0), (0, i7), (9, 0), (9, 0), (9, 0), (9, 0), (9, 0), (9, 0), (9, 0)] (if v.1 = 9 then [] else v :: []) m' Q)) ?_ (fun _ _ h => h)
                generalize hQ1 : (fun v m' => zW E (d) 199 53 [(2, 69), (0, a0), (0, i7), (9, 0), (9, 0), (9, 0), (9, 0), (9, 0), (9, 0), (9, 0)] (if v.1 = 9 then [] else v :: []) m' Q) = Q1
                show zW E (d - 1) 144 0 [(2, 69), (0, i7), (0, 4)] [] m8 Q1
                refine zw_7 zr_144_0 rfl ?_
                refine zw_46r (s := 70) zr_144_1 rfl rfl rfl rfl ?_
                refine zw_push zr_144_4 ?_
                refine zw_push zr_144_6 ?_
                refine zw_3 zr_144_8 rfl ?_
                refine zw_18 zr_144_9 (by omega) ?_
                refine zw_16 zr_144_10 (by omega) ?_
                refine zw_3 zr_144_11 rfl ?_
                refine zw_16 zr_144_12 (by omega) ?_
                refine zw_48 (c := 70) (len := 826) zr_144_13 rfl rfl (by omega) (by omega) ?_
                intro x67 ex67
                have bx67 := ib_70_m4 hIm8 (k := (((90 + (6 * i7)) + 4)).toNat) (by omega)
                rw [← ex67] at bx67
                refine zw_R zr_144_14 (by decide) zm_144 (v := (0, x67)) rfl ?_
                rw [← hQ1]
                show zW E (d) 199 53 [(2, 69), (0, a0), (0, i7), (9, 0), (9, 0), (9, 0), (9, 0), (9, 0), (9, 0), (9, 0)] [(0, x67)] m8 Q
                refine zw_40_4 zr_199_53 ?_ ?_
                · intro h68
                  refine zw_15 (c := 1) (L' := [(2, 69), (0, a0), (0, (i7 + 1)), (9, 0), (9, 0), (9, 0), (9, 0), (9, 0), (9, 0), (9, 0)]) zr_199_121 rfl (by decide) (by omega) rfl ?_
                  refine zw_42 zr_199_124 ?_
                  exact zw_less (L := [(2, 69), (0, a0), (0, (i7 + 1)), (9, 0), (9, 0), (9, 0), (9, 0), (9, 0), (9, 0), (9, 0)]) ⟨Or.inr rfl, Or.inr rfl, Or.inr rfl, Or.inl rfl, Or.inl rfl, Or.inl rfl, Or.inl rfl, Or.inl rfl, Or.inl rfl, Or.inl rfl, trivial⟩ (ihlp39_9 ((i7 + 1)) m8 hIm8 hFm8   (by omega) (by omega)  (by omega))
                · intro h69
                  refine zw_7 zr_199_56 rfl ?_
                  refine zw_3 zr_199_57 rfl ?_
                  refine zw_push zr_199_58 ?_
                  refine zw_C zr_199_59 (Or.inl rfl) zm_144 rfl rfl ⟨Nat.le_of_ble_eq_true rfl, Nat.le_of_ble_eq_true rfl, Nat.le_of_ble_eq_true rfl, rfl, by decide⟩ (by omega) (P := (fun v m' => zW E (d) 199 62 [(2, 69), (0, a0), (0, i7), (9, 0), (9, 0), (9, 0), (9, 0), (9, 0), (9, 0), (9, 0)] (if v.1 = 9 then [] else v :: []) m' Q)) ?_ (fun _ _ h => h)
                  generalize hQ1 : (fun v m' => zW E (d) 199 62 [(2, 69), (0, a0), (0, i7), (9, 0), (9, 0), (9, 0), (9, 0), (9, 0), (9, 0), (9, 0)] (if v.1 = 9 then [] else v :: []) m' Q) = Q1
                  show zW E (d - 1) 144 0 [(2, 69), (0, i7), (0, 3)] [] m8 Q1
                  refine zw_7 zr_144_0 rfl ?_
                  refine zw_46r (s := 70) zr_144_1 rfl rfl rfl rfl ?_
                  refine zw_push zr_144_4 ?_
                  refine zw_push zr_144_6 ?_
                  refine zw_3 zr_144_8 rfl ?_
                  refine zw_18 zr_144_9 (by omega) ?_
                  refine zw_16 zr_144_10 (by omega) ?_
                  refine zw_3 zr_144_11 rfl ?_
                  refine zw_16 zr_144_12 (by omega) ?_
                  refine zw_48 (c := 70) (len := 826) zr_144_13 rfl rfl (by omega) (by omega) ?_
                  intro x70 ex70
                  have bx70 := ib_70_m3 hIm8 (k := (((90 + (6 * i7)) + 3)).toNat) (by omega)
                  rw [← ex70] at bx70
                  refine zw_R zr_144_14 (by decide) zm_144 (v := (0, x70)) rfl ?_
                  rw [← hQ1]
                  show zW E (d) 199 62 [(2, 69), (0, a0), (0, i7), (9, 0), (9, 0), (9, 0), (9, 0), (9, 0), (9, 0), (9, 0)] [(0, x70)] m8 Q
                  refine zw_push zr_199_62 ?_
                  refine zw_41_1 zr_199_63 ?_ ?_
                  · intro h71
                    refine zw_15 (c := 1) (L' := [(2, 69), (0, a0), (0, (i7 + 1)), (9, 0), (9, 0), (9, 0), (9, 0), (9, 0), (9, 0), (9, 0)]) zr_199_121 rfl (by decide) (by omega) rfl ?_
                    refine zw_42 zr_199_124 ?_
                    exact zw_less (L := [(2, 69), (0, a0), (0, (i7 + 1)), (9, 0), (9, 0), (9, 0), (9, 0), (9, 0), (9, 0), (9, 0)]) ⟨Or.inr rfl, Or.inr rfl, Or.inr rfl, Or.inl rfl, Or.inl rfl, Or.inl rfl, Or.inl rfl, Or.inl rfl, Or.inl rfl, Or.inl rfl, trivial⟩ (ihlp39_9 ((i7 + 1)) m8 hIm8 hFm8   (by omega) (by omega)  (by omega))
                  · intro h72
                    refine zw_7 zr_199_66 rfl ?_
                    refine zw_3 zr_199_67 rfl ?_
                    refine zw_push zr_199_68 ?_
                    refine zw_C zr_199_69 (Or.inl rfl) zm_144 rfl rfl ⟨Nat.le_of_ble_eq_true rfl, Nat.le_of_ble_eq_true rfl, Nat.le_of_ble_eq_true rfl, rfl, by decide⟩ (by omega) (P := (fun v m' => zW E (d) 199 72 [(2, 69), (0, a0), (0, i7), (9, 0), (9, 0), (9, 0), (9, 0), (9, 0), (9, 0), (9, 0)] (if v.1 = 9 then [] else v :: []) m' Q)) ?_ (fun _ _ h => h)
                    generalize hQ1 : (fun v m' => zW E (d) 199 72 [(2, 69), (0, a0), (0, i7), (9, 0), (9, 0), (9, 0), (9, 0), (9, 0), (9, 0), (9, 0)] (if v.1 = 9 then [] else v :: []) m' Q) = Q1
                    show zW E (d - 1) 144 0 [(2, 69), (0, i7), (0, 3)] [] m8 Q1
                    refine zw_7 zr_144_0 rfl ?_
                    refine zw_46r (s := 70) zr_144_1 rfl rfl rfl rfl ?_
                    refine zw_push zr_144_4 ?_
                    refine zw_push zr_144_6 ?_
                    refine zw_3 zr_144_8 rfl ?_
                    refine zw_18 zr_144_9 (by omega) ?_
                    refine zw_16 zr_144_10 (by omega) ?_
                    refine zw_3 zr_144_11 rfl ?_
                    refine zw_16 zr_144_12 (by omega) ?_
                    refine zw_48k (c := 70) (len := 826) zr_144_13 rfl rfl (by omega) (by omega) rfl ex70.symm ?_
                    refine zw_R zr_144_14 (by decide) zm_144 (v := (0, x70)) rfl ?_
                    rw [← hQ1]
                    show zW E (d) 199 72 [(2, 69), (0, a0), (0, i7), (9, 0), (9, 0), (9, 0), (9, 0), (9, 0), (9, 0), (9, 0)] [(0, x70)] m8 Q
                    refine zw_push zr_199_72 ?_
                    refine zw_41_4 zr_199_73 ?_ ?_
                    · intro h73
                      refine zw_7 zr_199_85 rfl ?_
                      refine zw_3 zr_199_86 rfl ?_
                      refine zw_push zr_199_87 ?_
                      refine zw_C zr_199_88 (Or.inl rfl) zm_144 rfl rfl ⟨Nat.le_of_ble_eq_true rfl, Nat.le_of_ble_eq_true rfl, Nat.le_of_ble_eq_true rfl, rfl, by decide⟩ (by omega) (P := (fun v m' => zW E (d) 199 91 [(2, 69), (0, a0), (0, i7), (9, 0), (9, 0), (9, 0), (9, 0), (9, 0), (9, 0), (9, 0)] (if v.1 = 9 then [] else v :: []) m' Q)) ?_ (fun _ _ h => h)
                      generalize hQ1 : (fun v m' => zW E (d) 199 91 [(2, 69), (0, a0), (0, i7), (9, 0), (9, 0), (9, 0), (9, 0), (9, 0), (9, 0), (9, 0)] (if v.1 = 9 then [] else v :: []) m' Q) = Q1
                      show zW E (d - 1) 144 0 [(2, 69), (0, i7), (0, 2)] [] m8 Q1
                      refine zw_7 zr_144_0 rfl ?_
                      refine zw_46r (s := 70) zr_144_1 rfl rfl rfl rfl ?_
                      refine zw_push zr_144_4 ?_
                      refine zw_push zr_144_6 ?_
                      refine zw_3 zr_144_8 rfl ?_
                      refine zw_18 zr_144_9 (by omega) ?_
                      refine zw_16 zr_144_10 (by omega) ?_
                      refine zw_3 zr_144_11 rfl ?_
                      refine zw_16 zr_144_12 (by omega) ?_
                      refine zw_48 (c := 70) (len := 826) zr_144_13 rfl rfl (by omega) (by omega) ?_
                      intro x74 ex74
                      have bx74 := ib_70_m2 hIm8 (k := (((90 + (6 * i7)) + 2)).toNat) (by omega)
                      rw [← ex74] at bx74
                      refine zw_R zr_144_14 (by decide) zm_144 (v := (0, x74)) rfl ?_
                      rw [← hQ1]
                      show zW E (d) 199 91 [(2, 69), (0, a0), (0, i7), (9, 0), (9, 0), (9, 0), (9, 0), (9, 0), (9, 0), (9, 0)] [(0, x74)] m8 Q
                      refine zw_9 (L' := [(2, 69), (0, a0), (0, i7), (0, x74), (9, 0), (9, 0), (9, 0), (9, 0), (9, 0), (9, 0)]) zr_199_91 (Nat.le_of_ble_eq_true rfl) rfl ?_
                      refine zw_7 zr_199_92 rfl ?_
                      refine zw_46r (s := 83) zr_199_93 rfl rfl rfl rfl ?_
                      refine zw_push zr_199_96 ?_
                      refine zw_3 zr_199_98 rfl ?_
                      refine zw_18 zr_199_99 (by omega) ?_
                      refine zw_7 zr_199_100 rfl ?_
                      refine zw_3 zr_199_101 rfl ?_
                      refine zw_push zr_199_102 ?_
                      refine zw_C zr_199_103 (Or.inl rfl) zm_144 rfl rfl ⟨Nat.le_of_ble_eq_true rfl, Nat.le_of_ble_eq_true rfl, Nat.le_of_ble_eq_true rfl, rfl, by decide⟩ (by omega) (P := (fun v m' => zW E (d) 199 106 [(2, 69), (0, a0), (0, i7), (0, x74), (9, 0), (9, 0), (9, 0), (9, 0), (9, 0), (9, 0)] (if v.1 = 9 then [(0, (10 * x74)), (2, 83)] else v :: [(0, (10 * x74)), (2, 83)]) m' Q)) ?_ (fun _ _ h => h)
                      generalize hQ1 : (fun v m' => zW E (d) 199 106 [(2, 69), (0, a0), (0, i7), (0, x74), (9, 0), (9, 0), (9, 0), (9, 0), (9, 0), (9, 0)] (if v.1 = 9 then [(0, (10 * x74)), (2, 83)] else v :: [(0, (10 * x74)), (2, 83)]) m' Q) = Q1
                      show zW E (d - 1) 144 0 [(2, 69), (0, i7), (0, 1)] [] m8 Q1
                      refine zw_7 zr_144_0 rfl ?_
                      refine zw_46r (s := 70) zr_144_1 rfl rfl rfl rfl ?_
                      refine zw_push zr_144_4 ?_
                      refine zw_push zr_144_6 ?_
                      refine zw_3 zr_144_8 rfl ?_
                      refine zw_18 zr_144_9 (by omega) ?_
                      refine zw_16 zr_144_10 (by omega) ?_
                      refine zw_3 zr_144_11 rfl ?_
                      refine zw_16 zr_144_12 (by omega) ?_
                      refine zw_48 (c := 70) (len := 826) zr_144_13 rfl rfl (by omega) (by omega) ?_
                      intro x75 ex75
                      have bx75 := ib_70_m1 hIm8 (k := (((90 + (6 * i7)) + 1)).toNat) (by omega)
                      rw [← ex75] at bx75
                      refine zw_R zr_144_14 (by decide) zm_144 (v := (0, x75)) rfl ?_
                      rw [← hQ1]
                      show zW E (d) 199 106 [(2, 69), (0, a0), (0, i7), (0, x74), (9, 0), (9, 0), (9, 0), (9, 0), (9, 0), (9, 0)] [(0, x75), (0, (10 * x74)), (2, 83)] m8 Q
                      refine zw_16 zr_199_106 (by omega) ?_
                      refine zw_7 zr_199_107 rfl ?_
                      refine zw_3 zr_199_108 rfl ?_
                      refine zw_push zr_199_109 ?_
                      refine zw_C zr_199_110 (Or.inl rfl) zm_144 rfl rfl ⟨Nat.le_of_ble_eq_true rfl, Nat.le_of_ble_eq_true rfl, Nat.le_of_ble_eq_true rfl, rfl, by decide⟩ (by omega) (P := (fun v m' => zW E (d) 199 113 [(2, 69), (0, a0), (0, i7), (0, x74), (9, 0), (9, 0), (9, 0), (9, 0), (9, 0), (9, 0)] (if v.1 = 9 then [(0, ((10 * x74) + x75)), (2, 83)] else v :: [(0, ((10 * x74) + x75)), (2, 83)]) m' Q)) ?_ (fun _ _ h => h)
                      generalize hQ1 : (fun v m' => zW E (d) 199 113 [(2, 69), (0, a0), (0, i7), (0, x74), (9, 0), (9, 0), (9, 0), (9, 0), (9, 0), (9, 0)] (if v.1 = 9 then [(0, ((10 * x74) + x75)), (2, 83)] else v :: [(0, ((10 * x74) + x75)), (2, 83)]) m' Q) = Q1
                      show zW E (d - 1) 144 0 [(2, 69), (0, i7), (0, 2)] [] m8 Q1
                      refine zw_7 zr_144_0 rfl ?_
                      refine zw_46r (s := 70) zr_144_1 rfl rfl rfl rfl ?_
                      refine zw_push zr_144_4 ?_
                      refine zw_push zr_144_6 ?_
                      refine zw_3 zr_144_8 rfl ?_
                      refine zw_18 zr_144_9 (by omega) ?_
                      refine zw_16 zr_144_10 (by omega) ?_
                      refine zw_3 zr_144_11 rfl ?_
                      refine zw_16 zr_144_12 (by omega) ?_
                      refine zw_48k (c := 70) (len := 826) zr_144_13 rfl rfl (by omega) (by omega) rfl ex74.symm ?_
                      refine zw_R zr_144_14 (by decide) zm_144 (v := (0, x74)) rfl ?_
                      rw [← hQ1]
                      show zW E (d) 199 113 [(2, 69), (0, a0), (0, i7), (0, x74), (9, 0), (9, 0), (9, 0), (9, 0), (9, 0), (9, 0)] [(0, x74), (0, ((10 * x74) + x75)), (2, 83)] m8 Q
                      refine zw_16 zr_199_113 (by omega) ?_
                      refine zw_3 zr_199_114 rfl ?_
                      refine zw_17 zr_199_115 (by omega) ?_
                      refine zw_45 zr_199_116 ⟨rfl, rfl⟩ ?_
                      refine zw_48 (c := 83) (len := 100) zr_199_117 rfl rfl (by omega) (by omega) ?_
                      intro x76 ex76
                      have bx76 := hIm8.ra (c := 83) (len := 100) (k := (((((10 * x74) + x75) + x74) - x74)).toNat) rfl (by omega)
                      rw [← ex76] at bx76
                      clear ex76
                      refine zw_push zr_199_118 ?_
                      refine zw_16h zr_199_119 ?_
                      intro x77 hx77a hx77b
                      refine zw_49 (c := 83) (len := 100) zr_199_120 rfl rfl (by omega) (by omega) ?_
                      intro m78 em78
                      have hIm78 : zInv m78 := by rw [em78]; exact hIm8.any (by omega) rfl (by decide) (by decide)
                      have hFm78 : zFr W_199 m0 m78 := by rw [em78]; exact hFm8.any rfl
                      have km78_70_823 : m78 70 823 = f11 := by rw [em78, zUp_ne (by omega)]; exact ef11
                      clear em78
                      refine zw_15 (c := 1) (L' := [(2, 69), (0, a0), (0, (i7 + 1)), (0, x74), (9, 0), (9, 0), (9, 0), (9, 0), (9, 0), (9, 0)]) zr_199_121 rfl (by decide) (by omega) rfl ?_
                      refine zw_42 zr_199_124 ?_
                      exact zw_less (L := [(2, 69), (0, a0), (0, (i7 + 1)), (9, 0), (9, 0), (9, 0), (9, 0), (9, 0), (9, 0), (9, 0)]) ⟨Or.inr rfl, Or.inr rfl, Or.inr rfl, Or.inl rfl, Or.inl rfl, Or.inl rfl, Or.inl rfl, Or.inl rfl, Or.inl rfl, Or.inl rfl, trivial⟩ (ihlp39_9 ((i7 + 1)) m78 hIm78 hFm78   (by omega) (by omega)  (by omega))
                    · intro h79
                      refine zw_7 zr_199_76 rfl ?_
                      refine zw_3 zr_199_77 rfl ?_
                      refine zw_push zr_199_78 ?_
                      refine zw_C zr_199_79 (Or.inl rfl) zm_144 rfl rfl ⟨Nat.le_of_ble_eq_true rfl, Nat.le_of_ble_eq_true rfl, Nat.le_of_ble_eq_true rfl, rfl, by decide⟩ (by omega) (P := (fun v m' => zW E (d) 199 82 [(2, 69), (0, a0), (0, i7), (9, 0), (9, 0), (9, 0), (9, 0), (9, 0), (9, 0), (9, 0)] (if v.1 = 9 then [] else v :: []) m' Q)) ?_ (fun _ _ h => h)
                      generalize hQ1 : (fun v m' => zW E (d) 199 82 [(2, 69), (0, a0), (0, i7), (9, 0), (9, 0), (9, 0), (9, 0), (9, 0), (9, 0), (9, 0)] (if v.1 = 9 then [] else v :: []) m' Q) = Q1
                      show zW E (d - 1) 144 0 [(2, 69), (0, i7), (0, 1)] [] m8 Q1
                      refine zw_7 zr_144_0 rfl ?_
                      refine zw_46r (s := 70) zr_144_1 rfl rfl rfl rfl ?_
                      refine zw_push zr_144_4 ?_
                      refine zw_push zr_144_6 ?_
                      refine zw_3 zr_144_8 rfl ?_
                      refine zw_18 zr_144_9 (by omega) ?_
                      refine zw_16 zr_144_10 (by omega) ?_
                      refine zw_3 zr_144_11 rfl ?_
                      refine zw_16 zr_144_12 (by omega) ?_
                      refine zw_48 (c := 70) (len := 826) zr_144_13 rfl rfl (by omega) (by omega) ?_
                      intro x80 ex80
                      have bx80 := ib_70_m1 hIm8 (k := (((90 + (6 * i7)) + 1)).toNat) (by omega)
                      rw [← ex80] at bx80
                      refine zw_R zr_144_14 (by decide) zm_144 (v := (0, x80)) rfl ?_
                      rw [← hQ1]
                      show zW E (d) 199 82 [(2, 69), (0, a0), (0, i7), (9, 0), (9, 0), (9, 0), (9, 0), (9, 0), (9, 0), (9, 0)] [(0, x80)] m8 Q
                      refine zw_42 zr_199_82 ?_
                      refine zw_9 (L' := [(2, 69), (0, a0), (0, i7), (0, x80), (9, 0), (9, 0), (9, 0), (9, 0), (9, 0), (9, 0)]) zr_199_91 (Nat.le_of_ble_eq_true rfl) rfl ?_
                      refine zw_7 zr_199_92 rfl ?_
                      refine zw_46r (s := 83) zr_199_93 rfl rfl rfl rfl ?_
                      refine zw_push zr_199_96 ?_
                      refine zw_3 zr_199_98 rfl ?_
                      refine zw_18 zr_199_99 (by omega) ?_
                      refine zw_7 zr_199_100 rfl ?_
                      refine zw_3 zr_199_101 rfl ?_
                      refine zw_push zr_199_102 ?_
                      refine zw_C zr_199_103 (Or.inl rfl) zm_144 rfl rfl ⟨Nat.le_of_ble_eq_true rfl, Nat.le_of_ble_eq_true rfl, Nat.le_of_ble_eq_true rfl, rfl, by decide⟩ (by omega) (P := (fun v m' => zW E (d) 199 106 [(2, 69), (0, a0), (0, i7), (0, x80), (9, 0), (9, 0), (9, 0), (9, 0), (9, 0), (9, 0)] (if v.1 = 9 then [(0, (10 * x80)), (2, 83)] else v :: [(0, (10 * x80)), (2, 83)]) m' Q)) ?_ (fun _ _ h => h)
                      generalize hQ1 : (fun v m' => zW E (d) 199 106 [(2, 69), (0, a0), (0, i7), (0, x80), (9, 0), (9, 0), (9, 0), (9, 0), (9, 0), (9, 0)] (if v.1 = 9 then [(0, (10 * x80)), (2, 83)] else v :: [(0, (10 * x80)), (2, 83)]) m' Q) = Q1
                      show zW E (d - 1) 144 0 [(2, 69), (0, i7), (0, 1)] [] m8 Q1
                      refine zw_7 zr_144_0 rfl ?_
                      refine zw_46r (s := 70) zr_144_1 rfl rfl rfl rfl ?_
                      refine zw_push zr_144_4 ?_
                      refine zw_push zr_144_6 ?_
                      refine zw_3 zr_144_8 rfl ?_
                      refine zw_18 zr_144_9 (by omega) ?_
                      refine zw_16 zr_144_10 (by omega) ?_
                      refine zw_3 zr_144_11 rfl ?_
                      refine zw_16 zr_144_12 (by omega) ?_
                      refine zw_48k (c := 70) (len := 826) zr_144_13 rfl rfl (by omega) (by omega) rfl ex80.symm ?_
                      refine zw_R zr_144_14 (by decide) zm_144 (v := (0, x80)) rfl ?_
                      rw [← hQ1]
                      show zW E (d) 199 106 [(2, 69), (0, a0), (0, i7), (0, x80), (9, 0), (9, 0), (9, 0), (9, 0), (9, 0), (9, 0)] [(0, x80), (0, (10 * x80)), (2, 83)] m8 Q
                      refine zw_16 zr_199_106 (by omega) ?_
                      refine zw_7 zr_199_107 rfl ?_
                      refine zw_3 zr_199_108 rfl ?_
                      refine zw_push zr_199_109 ?_
                      refine zw_C zr_199_110 (Or.inl rfl) zm_144 rfl rfl ⟨Nat.le_of_ble_eq_true rfl, Nat.le_of_ble_eq_true rfl, Nat.le_of_ble_eq_true rfl, rfl, by decide⟩ (by omega) (P := (fun v m' => zW E (d) 199 113 [(2, 69), (0, a0), (0, i7), (0, x80), (9, 0), (9, 0), (9, 0), (9, 0), (9, 0), (9, 0)] (if v.1 = 9 then [(0, ((10 * x80) + x80)), (2, 83)] else v :: [(0, ((10 * x80) + x80)), (2, 83)]) m' Q)) ?_ (fun _ _ h => h)
                      generalize hQ1 : (fun v m' => zW E (d) 199 113 [(2, 69), (0, a0), (0, i7), (0, x80), (9, 0), (9, 0), (9, 0), (9, 0), (9, 0), (9, 0)] (if v.1 = 9 then [(0, ((10 * x80) + x80)), (2, 83)] else v :: [(0, ((10 * x80) + x80)), (2, 83)]) m' Q) = Q1
                      show zW E (d - 1) 144 0 [(2, 69), (0, i7), (0, 2)] [] m8 Q1
                      refine zw_7 zr_144_0 rfl ?_
                      refine zw_46r (s := 70) zr_144_1 rfl rfl rfl rfl ?_
                      refine zw_push zr_144_4 ?_
                      refine zw_push zr_144_6 ?_
                      refine zw_3 zr_144_8 rfl ?_
                      refine zw_18 zr_144_9 (by omega) ?_
                      refine zw_16 zr_144_10 (by omega) ?_
                      refine zw_3 zr_144_11 rfl ?_
                      refine zw_16 zr_144_12 (by omega) ?_
                      refine zw_48 (c := 70) (len := 826) zr_144_13 rfl rfl (by omega) (by omega) ?_
                      intro x81 ex81
                      have bx81 := ib_70_m2 hIm8 (k := (((90 + (6 * i7)) + 2)).toNat) (by omega)
                      rw [← ex81] at bx81
                      refine zw_R zr_144_14 (by decide) zm_144 (v := (0, x81)) rfl ?_
                      rw [← hQ1]
                      show zW E (d) 199 113 [(2, 69), (0, a0), (0, i7), (0, x80), (9, 0), (9, 0), (9, 0), (9, 0), (9, 0), (9, 0)] [(0, x81), (0, ((10 * x80) + x80)), (2, 83)] m8 Q
                      refine zw_16 zr_199_113 (by omega) ?_
                      refine zw_3 zr_199_114 rfl ?_
                      refine zw_17 zr_199_115 (by omega) ?_
                      refine zw_45 zr_199_116 ⟨rfl, rfl⟩ ?_
                      refine zw_48 (c := 83) (len := 100) zr_199_117 rfl rfl (by omega) (by omega) ?_
                      intro x82 ex82
                      have bx82 := hIm8.ra (c := 83) (len := 100) (k := (((((10 * x80) + x80) + x81) - x80)).toNat) rfl (by omega)
                      rw [← ex82] at bx82
                      clear ex82
                      refine zw_push zr_199_118 ?_
                      refine zw_16h zr_199_119 ?_
                      intro x83 hx83a hx83b
                      refine zw_49 (c := 83) (len := 100) zr_199_120 rfl rfl (by omega) (by omega) ?_
                      intro m84 em84
                      have hIm84 : zInv m84 := by rw [em84]; exact hIm8.any (by omega) rfl (by decide) (by decide)
                      have hFm84 : zFr W_199 m0 m84 := by rw [em84]; exact hFm8.any rfl
                      have km84_70_823 : m84 70 823 = f11 := by rw [em84, zUp_ne (by omega)]; exact ef11
                      clear em84
                      refine zw_15 (c := 1) (L' := [(2, 69), (0, a0), (0, (i7 + 1)), (0, x80), (9, 0), (9, 0), (9, 0), (9, 0), (9, 0), (9, 0)]) zr_199_121 rfl (by decide) (by omega) rfl ?_
                      refine zw_42 zr_199_124 ?_
                      exact zw_less (L := [(2, 69), (0, a0), (0, (i7 + 1)), (9, 0), (9, 0), (9, 0), (9, 0), (9, 0), (9, 0), (9, 0)]) ⟨Or.inr rfl, Or.inr rfl, Or.inr rfl, Or.inl rfl, Or.inl rfl, Or.inl rfl, Or.inl rfl, Or.inl rfl, Or.inl rfl, Or.inl rfl, trivial⟩ (ihlp39_9 ((i7 + 1)) m84 hIm84 hFm84   (by omega) (by omega)  (by omega))
          exact lp39_9 _ (0) m3 hIm3 hFm3   (by omega) (by omega)  (Nat.lt_succ_self _)
        · intro h85
          refine zw_7 zr_199_24 rfl ?_
          refine zw_46r (s := 83) zr_199_25 rfl rfl rfl rfl ?_
          refine zw_3 zr_199_28 rfl ?_
          refine zw_push zr_199_29 ?_
          refine zw_49 (c := 83) (len := 100) zr_199_30 rfl rfl (by omega) (by omega) ?_
          intro m86 em86
          have hIm86 : zInv m86 := by rw [em86]; exact hIm3.any (by omega) rfl (by decide) (by decide)
          have hFm86 : zFr W_199 m0 m86 := by rw [em86]; exact hFm3.any rfl
          clear em86
          refine zw_15 (c := 1) (L' := [(2, 69), (0, a0), (0, (i2 + 1)), (9, 0), (9, 0), (9, 0), (9, 0), (9, 0), (9, 0), (9, 0)]) zr_199_31 rfl (by decide) (by omega) rfl ?_
          refine zw_42 zr_199_34 ?_
          exact zw_less (L := [(2, 69), (0, a0), (0, (i2 + 1)), (9, 0), (9, 0), (9, 0), (9, 0), (9, 0), (9, 0), (9, 0)]) ⟨Or.inr rfl, Or.inr rfl, Or.inr rfl, Or.inl rfl, Or.inl rfl, Or.inl rfl, Or.inl rfl, Or.inl rfl, Or.inl rfl, Or.inl rfl, trivial⟩ (ihlp18_4 ((i2 + 1)) m86 hIm86 hFm86   (by omega) (by omega)  (by omega))
    exact lp18_4 _ (0) m0 hI0 hF0   (by omega) (by omega)  (Nat.lt_succ_self _)
  · intro h87
    refine zw_7 zr_199_5 rfl ?_
    refine zw_3 zr_199_6 rfl ?_
    refine zw_C zr_199_7 (Or.inl rfl) zm_143 rfl rfl ⟨Nat.le_of_ble_eq_true rfl, Nat.le_of_ble_eq_true rfl, Nat.le_of_ble_eq_true rfl, rfl, by decide⟩ (by omega) (P := (fun v m' => zW E (d) 199 10 [(2, 69), (0, a0), (9, 0), (9, 0), (9, 0), (9, 0), (9, 0), (9, 0), (9, 0), (9, 0)] (if v.1 = 9 then [] else v :: []) m' Q)) ?_ (fun _ _ h => h)
    generalize hQ1 : (fun v m' => zW E (d) 199 10 [(2, 69), (0, a0), (9, 0), (9, 0), (9, 0), (9, 0), (9, 0), (9, 0), (9, 0), (9, 0)] (if v.1 = 9 then [] else v :: []) m' Q) = Q1
    show zW E (d - 1) 143 0 [(2, 69), (0, a0)] [] m0 Q1
    refine zw_3 zr_143_0 rfl ?_
    refine zw_36 zr_143_1 ?_
    refine zw_push zr_143_2 ?_
    refine zw_7 zr_143_3 rfl ?_
    refine zw_C zr_143_4 (Or.inl rfl) zm_141 rfl rfl ⟨Nat.le_of_ble_eq_true rfl, Nat.le_of_ble_eq_true rfl, Nat.le_of_ble_eq_true rfl, rfl, by decide⟩ (by omega) (P := (fun v m' => zW E (d - 1) 143 7 [(2, 69), (0, a0)] (if v.1 = 9 then [(1, 0), (1, a0)] else v :: [(1, 0), (1, a0)]) m' Q1)) ?_ (fun _ _ h => h)
    generalize hQ2 : (fun v m' => zW E (d - 1) 143 7 [(2, 69), (0, a0)] (if v.1 = 9 then [(1, 0), (1, a0)] else v :: [(1, 0), (1, a0)]) m' Q1) = Q2
    show zW E (d - 1 - 1) 141 0 [(2, 69)] [] m0 Q2
    refine zw_7 zr_141_0 rfl ?_
    refine zw_46r (s := 70) zr_141_1 rfl rfl rfl rfl ?_
    refine zw_push zr_141_4 ?_
    obtain ⟨f88, ef88⟩ : ∃ v, m0 70 822 = v := ⟨_, rfl⟩
    have bf88 : 0 ≤ m0 70 822 ∧ m0 70 822 ≤ 10 := ib_70_players hI0 (by omega)
    rw [ef88] at bf88
    refine zw_48k (c := 70) (len := 826) zr_141_7 rfl rfl (by omega) (by omega) (show (822 : Int).toNat = 822 by omega) ef88 ?_
    refine zw_R zr_141_8 (by decide) zm_141 (v := (0, f88)) rfl ?_
    rw [← hQ2]
    show zW E (d - 1) 143 7 [(2, 69), (0, a0)] [(0, f88), (1, 0), (1, a0)] m0 Q1
    refine zw_push zr_143_7 ?_
    refine zw_17 zr_143_8 (by omega) ?_
    refine zw_36 zr_143_9 ?_
    refine zw_C zr_143_10 (Or.inr rfl) zm_140 rfl rfl ⟨Nat.le_of_ble_eq_true rfl, Nat.le_of_ble_eq_true rfl, Nat.le_of_ble_eq_true rfl, rfl, by decide⟩ (by omega) (P := (fun v m' => zW E (d - 1) 143 13 [(2, 69), (0, a0)] (if v.1 = 9 then [] else v :: []) m' Q1)) ?_ (fun _ _ h => h)
    generalize hQ2 : (fun v m' => zW E (d - 1) 143 13 [(2, 69), (0, a0)] (if v.1 = 9 then [] else v :: []) m' Q1) = Q2
    show zW E (d - 1 - 1) 140 0 [(1, a0), (9, 0), (1, 0), (9, 0), (1, (f88 - 1)), (9, 0)] [] m0 Q2
    refine zw_5 zr_140_0 rfl ?_
    refine zw_5 zr_140_1 rfl ?_
    refine zw_39_0 zr_140_2 zr_140_3 ?_ ?_
    · intro h89
      refine zw_push zr_140_17 ?_
      refine zw_R zr_140_18 (by decide) zm_140 (v := (0, 0)) (zRetB (by omega)) ?_
      rw [← hQ2]
      show zW E (d - 1) 143 13 [(2, 69), (0, a0)] [(0, 0)] m0 Q1
      refine zw_R zr_143_13 (by decide) zm_143 (v := (0, 0)) (zRetB (by omega)) ?_
      rw [← hQ1]
      show zW E (d) 199 10 [(2, 69), (0, a0), (9, 0), (9, 0), (9, 0), (9, 0), (9, 0), (9, 0), (9, 0), (9, 0)] [(0, 0)] m0 Q
      refine zw_40_4 zr_199_10 ?_ ?_
      · intro h90; omega
      · intro h91
        refine zw_push zr_199_13 ?_
        refine zw_R zr_199_15 (by decide) zm_199 (v := (0, (-2))) rfl ?_
        rw [← hQ]; exact ⟨_, rfl, by omega, by omega, hI0, hF0⟩
    · intro h92
      refine zw_5 zr_140_6 rfl ?_
      refine zw_6 zr_140_7 rfl ?_
      refine zw_39_2 zr_140_9 zr_140_10 ?_ ?_
      · intro h93
        refine zw_push zr_140_17 ?_
        refine zw_R zr_140_18 (by decide) zm_140 (v := (0, 0)) (zRetB (by omega)) ?_
        rw [← hQ2]
        show zW E (d - 1) 143 13 [(2, 69), (0, a0)] [(0, 0)] m0 Q1
        refine zw_R zr_143_13 (by decide) zm_143 (v := (0, 0)) (zRetB (by omega)) ?_
        rw [← hQ1]
        show zW E (d) 199 10 [(2, 69), (0, a0), (9, 0), (9, 0), (9, 0), (9, 0), (9, 0), (9, 0), (9, 0), (9, 0)] [(0, 0)] m0 Q
        refine zw_40_4 zr_199_10 ?_ ?_
        · intro h94; omega
        · intro h95
          refine zw_push zr_199_13 ?_
          refine zw_R zr_199_15 (by decide) zm_199 (v := (0, (-2))) rfl ?_
          rw [← hQ]; exact ⟨_, rfl, by omega, by omega, hI0, hF0⟩
      · intro h96
        refine zw_push zr_140_13 ?_
        refine zw_42 zr_140_14 ?_
        refine zw_R zr_140_18 (by decide) zm_140 (v := (0, 1)) (zRetB (by omega)) ?_
        rw [← hQ2]
        show zW E (d - 1) 143 13 [(2, 69), (0, a0)] [(0, 1)] m0 Q1
        refine zw_R zr_143_13 (by decide) zm_143 (v := (0, 1)) (zRetB (by omega)) ?_
        rw [← hQ1]
        show zW E (d) 199 10 [(2, 69), (0, a0), (9, 0), (9, 0), (9, 0), (9, 0), (9, 0), (9, 0), (9, 0), (9, 0)] [(0, 1)] m0 Q
        refine zw_40_4 zr_199_10 ?_ ?_
        · intro h97
          refine zw_push zr_199_16 ?_
          refine zw_9 (L' := [(2, 69), (0, a0), (0, 0), (9, 0), (9, 0), (9, 0), (9, 0), (9, 0), (9, 0), (9, 0)]) zr_199_17 (Nat.le_of_ble_eq_true rfl) rfl ?_
          have lp18_100 : ∀ (nlp18_100 : Nat) (i98 : Int) (m99 : zM), zInv m99 → zFr W_199 m0 m99 → m99 70 822 = f88 → 0 ≤ i98 → i98 ≤ 100 → (100 - i98).toNat < nlp18_100 → zW E (d) 199 18 [(2, 69), (0, a0), (0, i98), (9, 0), (9, 0), (9, 0), (9, 0), (9, 0), (9, 0), (9, 0)] [] m99 Q := by
            intro nlp18_100
            induction nlp18_100 with
            | zero =>
              intros
              exact absurd (by assumption : _ < 0) (Nat.not_lt_zero _)
            | succ nlp18_100 ihlp18_100 =>
              intro i98 m99 hIm99 hFm99 km99_70_822 li98 ui98 hmlp18_100
              refine zw_3 zr_199_18 rfl ?_
              refine zw_push zr_199_19 ?_
              refine zw_41_3 zr_199_21 ?_ ?_
              · intro h102
                refine zw_push zr_199_37 ?_
                refine zw_9 (L' := [(2, 69), (0, a0), (0, 0), (9, 0), (9, 0), (9, 0), (9, 0), (9, 0), (9, 0), (9, 0)]) zr_199_38 (Nat.le_of_ble_eq_true rfl) rfl ?_
                have lp39_105 : ∀ (nlp39_105 : Nat) (i103 : Int) (m104 : zM), zInv m104 → zFr W_199 m0 m104 → m104 70 822 = f88 → 0 ≤ i103 → i103 ≤ 60 → (60 - i103).toNat < nlp39_105 → zW E (d) 199 39 [(2, 69), (0, a0), (0, i103), (9, 0), (9, 0), (9, 0), (9, 0), (9, 0), (9, 0), (9, 0)] [] m104 Q := by
                  intro nlp39_105
                  induction nlp39_105 with
                  | zero =>
                    intros
                    exact absurd (by assumption : _ < 0) (Nat.not_lt_zero _)
                  | succ nlp39_105 ihlp39_105 =>
                    intro i103 m104 hIm104 hFm104 km104_70_822 li103 ui103 hmlp39_105
                    refine zw_3 zr_199_39 rfl ?_
                    refine zw_7 zr_199_40 rfl ?_
                    refine zw_C zr_199_41 (Or.inl rfl) zm_142 rfl rfl ⟨Nat.le_of_ble_eq_true rfl, Nat.le_of_ble_eq_true rfl, Nat.le_of_ble_eq_true rfl, rfl, by decide⟩ (by omega) (P := (fun v m' => zW E (d) 199 44 [(2, 69), (0, a0), (0, i103), (9, 0), (9, 0), (9, 0), (9, 0), (9, 0), (9, 0), (9, 0)] (if v.1 = 9 then [(0, i103)] else v :: [(0, i103)]) m' Q)) ?_ (fun _ _ h => h)
                    generalize hQ1 : (fun v m' => zW E (d) 199 44 [(2, 69), (0, a0), (0, i103), (9, 0), (9, 0), (9, 0), (9, 0), (9, 0), (9, 0), (9, 0)] (if v.1 = 9 then [(0, i103)] else v :: [(0, i103)]) m' Q) = Q1
                    show zW E (d - 1) 142 0 [(2, 69)] [] m104 Q1
                    refine zw_7 zr_142_0 rfl ?_
                    refine zw_46r (s := 70) zr_142_1 rfl rfl rfl rfl ?_
                    refine zw_push zr_142_4 ?_
                    obtain ⟨f107, ef107⟩ : ∃ v, m104 70 823 = v := ⟨_, rfl⟩
                    have bf107 : 0 ≤ m104 70 823 ∧ m104 70 823 ≤ 60 := ib_70_meetings hIm104 (by omega)
                    rw [ef107] at bf107
                    refine zw_48k (c := 70) (len := 826) zr_142_7 rfl rfl (by omega) (by omega) (show (823 : Int).toNat = 823 by omega) ef107 ?_
                    refine zw_R zr_142_8 (by decide) zm_142 (v := (0, f107)) rfl ?_
                    rw [← hQ1]
                    show zW E (d) 199 44 [(2, 69), (0, a0), (0, i103), (9, 0), (9, 0), (9, 0), (9, 0), (9, 0), (9, 0), (9, 0)] [(0, f107), (0, i103)] m104 Q
                    refine zw_41_3 zr_199_44 ?_ ?_
                    · intro h108
                      refine zw_push zr_199_127 ?_
                      refine zw_9 (L' := [(2, 69), (0, a0), (0, 1), (9, 0), (9, 0), (9, 0), (9, 0), (9, 0), (9, 0), (9, 0)]) zr_199_128 (Nat.le_of_ble_eq_true rfl) rfl ?_
                      refine zw_push zr_199_129 ?_
                      refine zw_9 (L' := [(2, 69), (0, a0), (0, 1), (0, 0), (9, 0), (9, 0), (9, 0), (9, 0), (9, 0), (9, 0)]) zr_199_130 (Nat.le_of_ble_eq_true rfl) rfl ?_
                      have lp131_112 : ∀ (nlp131_112 : Nat) (i109 i110 : Int) (m111 : zM), zInv m111 → zFr W_199 m0 m111 → m111 70 822 = f88 → m111 70 823 = f107 → (-2147483648) ≤ i109 → i109 ≤ 2147483647 → 0 ≤ i110 → i110 ≤ 10 → (10 - i110).toNat < nlp131_112 → zW E (d) 199 131 [(2, 69), (0, a0), (0, i109), (0, i110), (9, 0), (9, 0), (9, 0), (9, 0), (9, 0), (9, 0)] [] m111 Q := by
                        intro nlp131_112
                        induction nlp131_112 with
                        | zero =>
                          intros
                          exact absurd (by assumption : _ < 0) (Nat.not_lt_zero _)
                        | succ nlp131_112 ihlp131_112 =>
                          intro i109 i110 m111 hIm111 hFm111 km111_70_822 km111_70_823 li109 ui109 li110 ui110 hmlp131_112
                          refine zw_3 zr_199_131 rfl ?_
                          refine zw_7 zr_199_132 rfl ?_
                          refine zw_C zr_199_133 (Or.inl rfl) zm_141 rfl rfl ⟨Nat.le_of_ble_eq_true rfl, Nat.le_of_ble_eq_true rfl, Nat.le_of_ble_eq_true rfl, rfl, by decide⟩ (by omega) (P := (fun v m' => zW E (d) 199 136 [(2, 69), (0, a0), (0, i109), (0, i110), (9, 0), (9, 0), (9, 0), (9, 0), (9, 0), (9, 0)] (if v.1 = 9 then [(0, i110)] else v :: [(0, i110)]) m' Q)) ?_ (fun _ _ h => h)
                          generalize hQ1 : (fun v m' => zW E (d) 199 136 [(2, 69), (0, a0), (0, i109), (0, i110), (9, 0), (9, 0), (9, 0), (9, 0), (9, 0), (9, 0)] (if v.1 = 9 then [(0, i110)] else v :: [(0, i110)]) m' Q) = Q1
                          show zW E (d - 1) 141 0 [(2, 69)] [] m111 Q1
                          refine zw_7 zr_141_0 rfl ?_
                          refine zw_46r (s := 70) zr_141_1 rfl rfl rfl rfl ?_
                          refine zw_push zr_141_4 ?_
                          refine zw_48k (c := 70) (len := 826) zr_141_7 rfl rfl (by omega) (by omega) (show (822 : Int).toNat = 822 by omega) km111_70_822 ?_
                          refine zw_R zr_141_8 (by decide) zm_141 (v := (0, f88)) rfl ?_
                          rw [← hQ1]
                          show zW E (d) 199 136 [(2, 69), (0, a0), (0, i109), (0, i110), (9, 0), (9, 0), (9, 0), (9, 0), (9, 0), (9, 0)] [(0, f88), (0, i110)] m111 Q
                          refine zw_41_3 zr_199_136 ?_ ?_
                          · intro h114
                            refine zw_push zr_199_149 ?_
                            refine zw_9 (L' := [(2, 69), (0, a0), (0, i109), (0, 0), (9, 0), (9, 0), (9, 0), (9, 0), (9, 0), (9, 0)]) zr_199_150 (Nat.le_of_ble_eq_true rfl) rfl ?_
                            refine zw_push zr_199_151 ?_
                            refine zw_10 (L' := [(2, 69), (0, a0), (0, i109), (0, 0), (0, (-1)), (9, 0), (9, 0), (9, 0), (9, 0), (9, 0)]) zr_199_152 (Nat.le_of_ble_eq_true rfl) rfl ?_
                            refine zw_push zr_199_154 ?_
                            refine zw_10 (L' := [(2, 69), (0, a0), (0, i109), (0, 0), (0, (-1)), (0, 0), (9, 0), (9, 0), (9, 0), (9, 0)]) zr_199_155 (Nat.le_of_ble_eq_true rfl) rfl ?_
                            have lp157_119 : ∀ (nlp157_119 : Nat) (i115 i116 i117 : Int) (m118 : zM), zInv m118 → zFr W_199 m0 m118 → m118 70 822 = f88 → m118 70 823 = f107 → 0 ≤ i115 → i115 ≤ 2147483647 → (-1) ≤ i116 → i116 ≤ 2147483647 → 0 ≤ i117 → i117 ≤ 2147483647 → (2147483647 - i117).toNat < nlp157_119 → zW E (d) 199 157 [(2, 69), (0, a0), (0, i109), (0, i115), (0, i116), (0, i117), (9, 0), (9, 0), (9, 0), (9, 0)] [] m118 Q := by
                              intro nlp157_119
                              induction nlp157_119 with
                              | zero =>
                                intros
                                exact absurd (by assumption : _ < 0) (Nat.not_lt_zero _)
                              | succ nlp157_119 ihlp157_119 =>
                                intro i115 i116 i117 m118 hIm118 hFm118 km118_70_822 km118_70_823 li115 ui115 li116 ui116 li117 ui117 hmlp157_119
                                refine zw_4 zr_199_157 rfl ?_
                                refine zw_3 zr_199_159 rfl ?_
                                refine zw_41_3 zr_199_160 ?_ ?_
                                · intro h121
                                  refine zw_3 zr_199_321 rfl ?_
                                  refine zw_push zr_199_322 ?_
                                  refine zw_41_4 zr_199_323 ?_ ?_
                                  · intro h122
                                    refine zw_7 zr_199_329 rfl ?_
                                    refine zw_C zr_199_330 (Or.inl rfl) zm_141 rfl rfl ⟨Nat.le_of_ble_eq_true rfl, Nat.le_of_ble_eq_true rfl, Nat.le_of_ble_eq_true rfl, rfl, by decide⟩ (by omega) (P := (fun v m' => zW E (d) 199 333 [(2, 69), (0, a0), (0, i109), (0, i115), (0, i116), (0, i117), (9, 0), (9, 0), (9, 0), (9, 0)] (if v.1 = 9 then [] else v :: []) m' Q)) ?_ (fun _ _ h => h)
                                    generalize hQ1 : (fun v m' => zW E (d) 199 333 [(2, 69), (0, a0), (0, i109), (0, i115), (0, i116), (0, i117), (9, 0), (9, 0), (9, 0), (9, 0)] (if v.1 = 9 then [] else v :: []) m' Q) = Q1
                                    show zW E (d - 1) 141 0 [(2, 69)] [] m118 Q1
                                    refine zw_7 zr_141_0 rfl ?_
                                    refine zw_46r (s := 70) zr_141_1 rfl rfl rfl rfl ?_
                                    refine zw_push zr_141_4 ?_
                                    refine zw_48k (c := 70) (len := 826) zr_141_7 rfl rfl (by omega) (by omega) (show (822 : Int).toNat = 822 by omega) km118_70_822 ?_
                                    refine zw_R zr_141_8 (by decide) zm_141 (v := (0, f88)) rfl ?_
                                    rw [← hQ1]
                                    show zW E (d) 199 333 [(2, 69), (0, a0), (0, i109), (0, i115), (0, i116), (0, i117), (9, 0), (9, 0), (9, 0), (9, 0)] [(0, f88)] m118 Q
                                    refine zw_push zr_199_333 ?_
                                    refine zw_17 zr_199_334 (by omega) ?_
                                    refine zw_10 (L' := [(2, 69), (0, a0), (0, i109), (0, i115), (0, i116), (0, (f88 - 1)), (9, 0), (9, 0), (9, 0), (9, 0)]) zr_199_335 (Nat.le_of_ble_eq_true rfl) rfl ?_
                                    have lp337_125 : ∀ (nlp337_125 : Nat) (i123 i124 : Int), 0 ≤ i123 → i123 ≤ 2147483647 → 0 ≤ i124 → i124 ≤ 9 → (i124 - 0).toNat < nlp337_125 → zW E (d) 199 337 [(2, 69), (0, a0), (0, i109), (0, i123), (0, i116), (0, i124), (9, 0), (9, 0), (9, 0), (9, 0)] [] m118 Q := by
                                      intro nlp337_125
                                      induction nlp337_125 with
                                      | zero =>
                                        intros
                                        exact absurd (by assumption : _ < 0) (Nat.not_lt_zero _)
                                      | succ nlp337_125 ihlp337_125 =>
                                        intro i123 i124 li123 ui123 li124 ui124 hmlp337_125
                                        refine zw_4 zr_199_337 rfl ?_
                                        refine zw_3 zr_199_339 rfl ?_
                                        refine zw_41_5 zr_199_340 ?_ ?_
                                        · intro h127
                                          refine zw_3 zr_199_353 rfl ?_
                                          refine zw_push zr_199_354 ?_
                                          refine zw_20 zr_199_355 (by omega) (by omega) (by omega) (by omega) ?_
                                          refine zw_R zr_199_356 (by decide) zm_199 (v := (0, (i123 % 3))) rfl ?_
                                          rw [← hQ]; exact ⟨_, rfl, by omega, by omega, hIm118, hFm118⟩
                                        · intro h128
                                          refine zw_3 zr_199_343 rfl ?_
                                          refine zw_push zr_199_344 ?_
                                          refine zw_19 zr_199_345 (by omega) (by omega) (by omega) (by omega) ?_
                                          refine zw_9 (L' := [(2, 69), (0, a0), (0, i109), (0, (i123 / 3)), (0, i116), (0, i124), (9, 0), (9, 0), (9, 0), (9, 0)]) zr_199_346 (Nat.le_of_ble_eq_true rfl) rfl ?_
                                          refine zw_15 (c := (-1)) (L' := [(2, 69), (0, a0), (0, i109), (0, (i123 / 3)), (0, i116), (0, (i124 + (-1))), (9, 0), (9, 0), (9, 0), (9, 0)]) zr_199_347 rfl (by decide) (by omega) rfl ?_
                                          refine zw_42 zr_199_350 ?_
                                          exact zw_less (L := [(2, 69), (0, a0), (0, i109), (0, (i123 / 3)), (0, i116), (0, (i124 + (-1))), (9, 0), (9, 0), (9, 0), (9, 0)]) ⟨Or.inr rfl, Or.inr rfl, Or.inr rfl, Or.inr rfl, Or.inr rfl, Or.inr rfl, Or.inl rfl, Or.inl rfl, Or.inl rfl, Or.inl rfl, trivial⟩ (ihlp337_125 ((i123 / 3)) ((i124 + (-1)))  (by omega) (by omega) (by omega) (by omega)  (by omega))
                                    exact lp337_125 _ (i115) ((f88 - 1))  (by omega) (by omega) (by omega) (by omega)  (Nat.lt_succ_self _)
                                  · intro h129; omega
                                · intro h130
                                  refine zw_4 zr_199_163 rfl ?_
                                  refine zw_10 (L' := [(2, 69), (0, a0), (0, i109), (0, i115), (0, i116), (0, i117), (0, i117), (9, 0), (9, 0), (9, 0)]) zr_199_165 (Nat.le_of_ble_eq_true rfl) rfl ?_
                                  refine zw_7 zr_199_167 rfl ?_
                                  refine zw_C zr_199_168 (Or.inl rfl) zm_141 rfl rfl ⟨Nat.le_of_ble_eq_true rfl, Nat.le_of_ble_eq_true rfl, Nat.le_of_ble_eq_true rfl, rfl, by decide⟩ (by omega) (P := (fun v m' => zW E (d) 199 171 [(2, 69), (0, a0), (0, i109), (0, i115), (0, i116), (0, i117), (0, i117), (9, 0), (9, 0), (9, 0)] (if v.1 = 9 then [] else v :: []) m' Q)) ?_ (fun _ _ h => h)
                                  generalize hQ1 : (fun v m' => zW E (d) 199 171 [(2, 69), (0, a0), (0, i109), (0, i115), (0, i116), (0, i117), (0, i117), (9, 0), (9, 0), (9, 0)] (if v.1 = 9 then [] else v :: []) m' Q) = Q1
                                  show zW E (d - 1) 141 0 [(2, 69)] [] m118 Q1
                                  refine zw_7 zr_141_0 rfl ?_
                                  refine zw_46r (s := 70) zr_141_1 rfl rfl rfl rfl ?_
                                  refine zw_push zr_141_4 ?_
                                  refine zw_48k (c := 70) (len := 826) zr_141_7 rfl rfl (by omega) (by omega) (show (822 : Int).toNat = 822 by omega) km118_70_822 ?_
                                  refine zw_R zr_141_8 (by decide) zm_141 (v := (0, f88)) rfl ?_
                                  rw [← hQ1]
                                  show zW E (d) 199 171 [(2, 69), (0, a0), (0, i109), (0, i115), (0, i116), (0, i117), (0, i117), (9, 0), (9, 0), (9, 0)] [(0, f88)] m118 Q
                                  refine zw_push zr_199_171 ?_
                                  refine zw_17 zr_199_172 (by omega) ?_
                                  refine zw_10 (L' := [(2, 69), (0, a0), (0, i109), (0, i115), (0, i116), (0, i117), (0, i117), (0, (f88 - 1)), (9, 0), (9, 0)]) zr_199_173 (Nat.le_of_ble_eq_true rfl) rfl ?_
                                  have lp175_134 : ∀ (nlp175_134 : Nat) (i131 i132 : Int) (m133 : zM), zInv m133 → zFr W_199 m0 m133 → m133 70 822 = f88 → m133 70 823 = f107 → 0 ≤ i131 → i131 ≤ 2147483647 → (-1) ≤ i132 → i132 ≤ 9 → (i132 - (-1)).toNat < nlp175_134 → zW E (d) 199 175 [(2, 69), (0, a0), (0, i109), (0, i115), (0, i116), (0, i117), (0, i131), (0, i132), (9, 0), (9, 0)] [] m133 Q := by
                                    intro nlp175_134
                                    induction nlp175_134 with
                                    | zero =>
                                      intros
                                      exact absurd (by assumption : _ < 0) (Nat.not_lt_zero _)
                                    | succ nlp175_134 ihlp175_134 =>
                                      intro i131 i132 m133 hIm133 hFm133 km133_70_822 km133_70_823 li131 ui131 li132 ui132 hmlp175_134
                                      refine zw_4 zr_199_175 rfl ?_
                                      refine zw_40_0 zr_199_177 ?_ ?_
                                      · intro h136
                                        refine zw_push zr_199_203 ?_
                                        refine zw_10 (L' := [(2, 69), (0, a0), (0, i109), (0, i115), (0, i116), (0, i117), (0, i131), (0, 0), (9, 0), (9, 0)]) zr_199_204 (Nat.le_of_ble_eq_true rfl) rfl ?_
                                        refine zw_push zr_199_206 ?_
                                        refine zw_10 (L' := [(2, 69), (0, a0), (0, i109), (0, i115), (0, i116), (0, i117), (0, i131), (0, 0), (0, 0), (9, 0)]) zr_199_207 (Nat.le_of_ble_eq_true rfl) rfl ?_
                                        have lp209_139 : ∀ (nlp209_139 : Nat) (i137 i138 : Int), (-2147483648) ≤ i137 → i137 ≤ 2147483647 → 0 ≤ i138 → i138 ≤ 10 → (10 - i138).toNat < nlp209_139 → zW E (d) 199 209 [(2, 69), (0, a0), (0, i109), (0, i115), (0, i116), (0, i117), (0, i131), (0, i137), (0, i138), (9, 0)] [] m133 Q := by
                                          intro nlp209_139
                                          induction nlp209_139 with
                                          | zero =>
                                            intros
                                            exact absurd (by assumption : _ < 0) (Nat.not_lt_zero _)
                                          | succ nlp209_139 ihlp209_139 =>
                                            intro i137 i138 li137 ui137 li138 ui138 hmlp209_139
                                            refine zw_4 zr_199_209 rfl ?_
                                            refine zw_7 zr_199_211 rfl ?_
                                            refine zw_C zr_199_212 (Or.inl rfl) zm_141 rfl rfl ⟨Nat.le_of_ble_eq_true rfl, Nat.le_of_ble_eq_true rfl, Nat.le_of_ble_eq_true rfl, rfl, by decide⟩ (by omega) (P := (fun v m' => zW E (d) 199 215 [(2, 69), (0, a0), (0, i109), (0, i115), (0, i116), (0, i117), (0, i131), (0, i137), (0, i138), (9, 0)] (if v.1 = 9 then [(0, i138)] else v :: [(0, i138)]) m' Q)) ?_ (fun _ _ h => h)
                                            generalize hQ1 : (fun v m' => zW E (d) 199 215 [(2, 69), (0, a0), (0, i109), (0, i115), (0, i116), (0, i117), (0, i131), (0, i137), (0, i138), (9, 0)] (if v.1 = 9 then [(0, i138)] else v :: [(0, i138)]) m' Q) = Q1
                                            show zW E (d - 1) 141 0 [(2, 69)] [] m133 Q1
                                            refine zw_7 zr_141_0 rfl ?_
                                            refine zw_46r (s := 70) zr_141_1 rfl rfl rfl rfl ?_
                                            refine zw_push zr_141_4 ?_
                                            refine zw_48k (c := 70) (len := 826) zr_141_7 rfl rfl (by omega) (by omega) (show (822 : Int).toNat = 822 by omega) km133_70_822 ?_
                                            refine zw_R zr_141_8 (by decide) zm_141 (v := (0, f88)) rfl ?_
                                            rw [← hQ1]
                                            show zW E (d) 199 215 [(2, 69), (0, a0), (0, i109), (0, i115), (0, i116), (0, i117), (0, i131), (0, i137), (0, i138), (9, 0)] [(0, f88), (0, i138)] m133 Q
                                            refine zw_41_3 zr_199_215 ?_ ?_
                                            · intro h141
                                              refine zw_4 zr_199_285 rfl ?_
                                              refine zw_4 zr_199_287 rfl ?_
                                              refine zw_41_5 zr_199_289 ?_ ?_
                                              · intro h142
                                                refine zw_3 zr_199_297 rfl ?_
                                                refine zw_9 (L' := [(2, 69), (0, a0), (0, i109), (0, i115), (0, i116), (0, i117), (0, i131), (0, i137), (0, i138), (9, 0)]) zr_199_298 (Nat.le_of_ble_eq_true rfl) rfl ?_
                                                refine zw_4 zr_199_299 rfl ?_
                                                refine zw_4 zr_199_301 rfl ?_
                                                refine zw_41_5 zr_199_303 ?_ ?_
                                                · intro h143
                                                  refine zw_4 zr_199_311 rfl ?_
                                                  refine zw_10 (L' := [(2, 69), (0, a0), (0, i109), (0, i115), (0, i116), (0, i117), (0, i131), (0, i137), (0, i138), (9, 0)]) zr_199_313 (Nat.le_of_ble_eq_true rfl) rfl ?_
                                                  refine zw_15 (c := 1) (L' := [(2, 69), (0, a0), (0, i109), (0, i115), (0, i116), (0, (i117 + 1)), (0, i131), (0, i137), (0, i138), (9, 0)]) zr_199_315 rfl (by decide) (by omega) rfl ?_
                                                  refine zw_42 zr_199_318 ?_
                                                  exact zw_less (L := [(2, 69), (0, a0), (0, i109), (0, i115), (0, i116), (0, (i117 + 1)), (9, 0), (9, 0), (9, 0), (9, 0)]) ⟨Or.inr rfl, Or.inr rfl, Or.inr rfl, Or.inr rfl, Or.inr rfl, Or.inr rfl, Or.inl rfl, Or.inl rfl, Or.inl rfl, Or.inl rfl, trivial⟩ (ihlp157_119 (i115) (i116) ((i117 + 1)) m133 hIm133 hFm133  km133_70_822 km133_70_823 (by omega) (by omega) (by omega) (by omega) (by omega) (by omega)  (by omega))
                                                · intro h144
                                                  refine zw_4 zr_199_306 rfl ?_
                                                  refine zw_42 zr_199_308 ?_
                                                  refine zw_10 (L' := [(2, 69), (0, a0), (0, i109), (0, i115), (0, i137), (0, i117), (0, i131), (0, i137), (0, i138), (9, 0)]) zr_199_313 (Nat.le_of_ble_eq_true rfl) rfl ?_
                                                  refine zw_15 (c := 1) (L' := [(2, 69), (0, a0), (0, i109), (0, i115), (0, i137), (0, (i117 + 1)), (0, i131), (0, i137), (0, i138), (9, 0)]) zr_199_315 rfl (by decide) (by omega) rfl ?_
                                                  refine zw_42 zr_199_318 ?_
                                                  exact zw_less (L := [(2, 69), (0, a0), (0, i109), (0, i115), (0, i137), (0, (i117 + 1)), (9, 0), (9, 0), (9, 0), (9, 0)]) ⟨Or.inr rfl, Or.inr rfl, Or.inr rfl, Or.inr rfl, Or.inr rfl, Or.inr rfl, Or.inl rfl, Or.inl rfl, Or.inl rfl, Or.inl rfl, trivial⟩ (ihlp157_119 (i115) (i137) ((i117 + 1)) m133 hIm133 hFm133  km133_70_822 km133_70_823 (by omega) (by omega) (by omega) (by omega) (by omega) (by omega)  (by omega))
                                              · intro h145
                                                refine zw_4 zr_199_292 rfl ?_
                                                refine zw_42 zr_199_294 ?_
                                                refine zw_9 (L' := [(2, 69), (0, a0), (0, i109), (0, i117), (0, i116), (0, i117), (0, i131), (0, i137), (0, i138), (9, 0)]) zr_199_298 (Nat.le_of_ble_eq_true rfl) rfl ?_
                                                refine zw_4 zr_199_299 rfl ?_
                                                refine zw_4 zr_199_301 rfl ?_
                                                refine zw_41_5 zr_199_303 ?_ ?_
                                                · intro h146
                                                  refine zw_4 zr_199_311 rfl ?_
                                                  refine zw_10 (L' := [(2, 69), (0, a0), (0, i109), (0, i117), (0, i116), (0, i117), (0, i131), (0, i137), (0, i138), (9, 0)]) zr_199_313 (Nat.le_of_ble_eq_true rfl) rfl ?_
                                                  refine zw_15 (c := 1) (L' := [(2, 69), (0, a0), (0, i109), (0, i117), (0, i116), (0, (i117 + 1)), (0, i131), (0, i137), (0, i138), (9, 0)]) zr_199_315 rfl (by decide) (by omega) rfl ?_
                                                  refine zw_42 zr_199_318 ?_
                                                  exact zw_less (L := [(2, 69), (0, a0), (0, i109), (0, i117), (0, i116), (0, (i117 + 1)), (9, 0), (9, 0), (9, 0), (9, 0)]) ⟨Or.inr rfl, Or.inr rfl, Or.inr rfl, Or.inr rfl, Or.inr rfl, Or.inr rfl, Or.inl rfl, Or.inl rfl, Or.inl rfl, Or.inl rfl, trivial⟩ (ihlp157_119 (i117) (i116) ((i117 + 1)) m133 hIm133 hFm133  km133_70_822 km133_70_823 (by omega) (by omega) (by omega) (by omega) (by omega) (by omega)  (by omega))
                                                · intro h147
                                                  refine zw_4 zr_199_306 rfl ?_
                                                  refine zw_42 zr_199_308 ?_
                                                  refine zw_10 (L' := [(2, 69), (0, a0), (0, i109), (0, i117), (0, i137), (0, i117), (0, i131), (0, i137), (0, i138), (9, 0)]) zr_199_313 (Nat.le_of_ble_eq_true rfl) rfl ?_
                                                  refine zw_15 (c := 1) (L' := [(2, 69), (0, a0), (0, i109), (0, i117), (0, i137), (0, (i117 + 1)), (0, i131), (0, i137), (0, i138), (9, 0)]) zr_199_315 rfl (by decide) (by omega) rfl ?_
                                                  refine zw_42 zr_199_318 ?_
                                                  exact zw_less (L := [(2, 69), (0, a0), (0, i109), (0, i117), (0, i137), (0, (i117 + 1)), (9, 0), (9, 0), (9, 0), (9, 0)]) ⟨Or.inr rfl, Or.inr rfl, Or.inr rfl, Or.inr rfl, Or.inr rfl, Or.inr rfl, Or.inl rfl, Or.inl rfl, Or.inl rfl, Or.inl rfl, trivial⟩ (ihlp157_119 (i117) (i137) ((i117 + 1)) m133 hIm133 hFm133  km133_70_822 km133_70_823 (by omega) (by omega) (by omega) (by omega) (by omega) (by omega)  (by omega))
                                            · intro h148
                                              refine zw_push zr_199_218 ?_
                                              refine zw_10 (L' := [(2, 69), (0, a0), (0, i109), (0, i115), (0, i116), (0, i117), (0, i131), (0, i137), (0, i138), (0, 0)]) zr_199_219 (Nat.le_of_ble_eq_true rfl) rfl ?_
                                              have lp221_151 : ∀ (nlp221_151 : Nat) (i149 i150 : Int), (-2147483648) ≤ i149 → i149 ≤ 2147483647 → 0 ≤ i150 → i150 ≤ 10 → (10 - i150).toNat < nlp221_151 → zW E (d) 199 221 [(2, 69), (0, a0), (0, i109), (0, i115), (0, i116), (0, i117), (0, i131), (0, i149), (0, i138), (0, i150)] [] m133 Q := by
                                                intro nlp221_151
                                                induction nlp221_151 with
                                                | zero =>
                                                  intros
                                                  exact absurd (by assumption : _ < 0) (Nat.not_lt_zero _)
                                                | succ nlp221_151 ihlp221_151 =>
                                                  intro i149 i150 li149 ui149 li150 ui150 hmlp221_151
                                                  refine zw_4 zr_199_221 rfl ?_
                                                  refine zw_7 zr_199_223 rfl ?_
                                                  refine zw_C zr_199_224 (Or.inl rfl) zm_141 rfl rfl ⟨Nat.le_of_ble_eq_true rfl, Nat.le_of_ble_eq_true rfl, Nat.le_of_ble_eq_true rfl, rfl, by decide⟩ (by omega) (P := (fun v m' => zW E (d) 199 227 [(2, 69), (0, a0), (0, i109), (0, i115), (0, i116), (0, i117), (0, i131), (0, i149), (0, i138), (0, i150)] (if v.1 = 9 then [(0, i150)] else v :: [(0, i150)]) m' Q)) ?_ (fun _ _ h => h)
                                                  generalize hQ1 : (fun v m' => zW E (d) 199 227 [(2, 69), (0, a0), (0, i109), (0, i115), (0, i116), (0, i117), (0, i131), (0, i149), (0, i138), (0, i150)] (if v.1 = 9 then [(0, i150)] else v :: [(0, i150)]) m' Q) = Q1
                                                  show zW E (d - 1) 141 0 [(2, 69)] [] m133 Q1
                                                  refine zw_7 zr_141_0 rfl ?_
                                                  refine zw_46r (s := 70) zr_141_1 rfl rfl rfl rfl ?_
                                                  refine zw_push zr_141_4 ?_
                                                  refine zw_48k (c := 70) (len := 826) zr_141_7 rfl rfl (by omega) (by omega) (show (822 : Int).toNat = 822 by omega) km133_70_822 ?_
                                                  refine zw_R zr_141_8 (by decide) zm_141 (v := (0, f88)) rfl ?_
                                                  rw [← hQ1]
                                                  show zW E (d) 199 227 [(2, 69), (0, a0), (0, i109), (0, i115), (0, i116), (0, i117), (0, i131), (0, i149), (0, i138), (0, i150)] [(0, f88), (0, i150)] m133 Q
                                                  refine zw_41_3 zr_199_227 ?_ ?_
                                                  · intro h153
                                                    refine zw_15 (c := 1) (L' := [(2, 69), (0, a0), (0, i109), (0, i115), (0, i116), (0, i117), (0, i131), (0, i149), (0, (i138 + 1)), (0, i150)]) zr_199_279 rfl (by decide) (by omega) rfl ?_
                                                    refine zw_42 zr_199_282 ?_
                                                    exact zw_less (L := [(2, 69), (0, a0), (0, i109), (0, i115), (0, i116), (0, i117), (0, i131), (0, i149), (0, (i138 + 1)), (9, 0)]) ⟨Or.inr rfl, Or.inr rfl, Or.inr rfl, Or.inr rfl, Or.inr rfl, Or.inr rfl, Or.inr rfl, Or.inr rfl, Or.inr rfl, Or.inl rfl, trivial⟩ (ihlp209_139 (i149) ((i138 + 1))  (by omega) (by omega) (by omega) (by omega)  (by omega))
                                                  · intro h154
                                                    refine zw_4 zr_199_230 rfl ?_
                                                    refine zw_7 zr_199_232 rfl ?_
                                                    refine zw_46r (s := 84) zr_199_233 rfl rfl rfl rfl ?_
                                                    refine zw_4 zr_199_236 rfl ?_
                                                    refine zw_48 (c := 84) (len := 10) zr_199_238 rfl rfl (by omega) (by omega) ?_
                                                    intro x155 ex155
                                                    have bx155 := hIm133.ra (c := 84) (len := 10) (k := (i138).toNat) rfl (by omega)
                                                    rw [← ex155] at bx155
                                                    clear ex155
                                                    refine zw_push zr_199_239 ?_
                                                    refine zw_16h zr_199_240 ?_
                                                    intro x156 hx156a hx156b
                                                    refine zw_push zr_199_241 ?_
                                                    refine zw_20h zr_199_242 (by omega) ?_
                                                    intro x157 hx157a hx157b
                                                    refine zw_7 zr_199_243 rfl ?_
                                                    refine zw_46r (s := 84) zr_199_244 rfl rfl rfl rfl ?_
                                                    refine zw_4 zr_199_247 rfl ?_
                                                    refine zw_48 (c := 84) (len := 10) zr_199_249 rfl rfl (by omega) (by omega) ?_
                                                    intro x158 ex158
                                                    have bx158 := hIm133.ra (c := 84) (len := 10) (k := (i150).toNat) rfl (by omega)
                                                    rw [← ex158] at bx158
                                                    clear ex158
                                                    refine zw_41_4 zr_199_250 ?_ ?_
                                                    · intro h159
                                                      refine zw_push zr_199_269 ?_
                                                      refine zw_16 zr_199_270 (by omega) ?_
                                                      refine zw_10 (L' := [(2, 69), (0, a0), (0, i109), (0, i115), (0, i116), (0, i117), (0, i131), (0, (i149 + 0)), (0, i138), (0, i150)]) zr_199_271 (Nat.le_of_ble_eq_true rfl) rfl ?_
                                                      refine zw_15 (c := 1) (L' := [(2, 69), (0, a0), (0, i109), (0, i115), (0, i116), (0, i117), (0, i131), (0, (i149 + 0)), (0, i138), (0, (i150 + 1))]) zr_199_273 rfl (by decide) (by omega) rfl ?_
                                                      refine zw_42 zr_199_276 ?_
                                                      exact zw_less (L := [(2, 69), (0, a0), (0, i109), (0, i115), (0, i116), (0, i117), (0, i131), (0, (i149 + 0)), (0, i138), (0, (i150 + 1))]) ⟨Or.inr rfl, Or.inr rfl, Or.inr rfl, Or.inr rfl, Or.inr rfl, Or.inr rfl, Or.inr rfl, Or.inr rfl, Or.inr rfl, Or.inr rfl, trivial⟩ (ihlp221_151 ((i149 + 0)) ((i150 + 1))  (by omega) (by omega) (by omega) (by omega)  (by omega))
                                                    · intro h160
                                                      refine zw_7 zr_199_253 rfl ?_
                                                      refine zw_46r (s := 83) zr_199_254 rfl rfl rfl rfl ?_
                                                      refine zw_push zr_199_257 ?_
                                                      refine zw_4 zr_199_259 rfl ?_
                                                      refine zw_18 zr_199_261 (by omega) ?_
                                                      refine zw_4 zr_199_262 rfl ?_
                                                      refine zw_16 zr_199_264 (by omega) ?_
                                                      refine zw_48 (c := 83) (len := 100) zr_199_265 rfl rfl (by omega) (by omega) ?_
                                                      intro x161 ex161
                                                      have bx161 := hIm133.ra (c := 83) (len := 100) (k := (((10 * i138) + i150)).toNat) rfl (by omega)
                                                      rw [← ex161] at bx161
                                                      clear ex161
                                                      refine zw_42 zr_199_266 ?_
                                                      refine zw_16h zr_199_270 ?_
                                                      intro x162 hx162a hx162b
                                                      refine zw_10 (L' := [(2, 69), (0, a0), (0, i109), (0, i115), (0, i116), (0, i117), (0, i131), (0, x162), (0, i138), (0, i150)]) zr_199_271 (Nat.le_of_ble_eq_true rfl) rfl ?_
                                                      refine zw_15 (c := 1) (L' := [(2, 69), (0, a0), (0, i109), (0, i115), (0, i116), (0, i117), (0, i131), (0, x162), (0, i138), (0, (i150 + 1))]) zr_199_273 rfl (by decide) (by omega) rfl ?_
                                                      refine zw_42 zr_199_276 ?_
                                                      exact zw_less (L := [(2, 69), (0, a0), (0, i109), (0, i115), (0, i116), (0, i117), (0, i131), (0, x162), (0, i138), (0, (i150 + 1))]) ⟨Or.inr rfl, Or.inr rfl, Or.inr rfl, Or.inr rfl, Or.inr rfl, Or.inr rfl, Or.inr rfl, Or.inr rfl, Or.inr rfl, Or.inr rfl, trivial⟩ (ihlp221_151 (x162) ((i150 + 1))  (by omega) (by omega) (by omega) (by omega)  (by omega))
                                              exact lp221_151 _ (i137) (0)  (by omega) (by omega) (by omega) (by omega)  (Nat.lt_succ_self _)
                                        exact lp209_139 _ (0) (0)  (by omega) (by omega) (by omega) (by omega)  (Nat.lt_succ_self _)
                                      · intro h163
                                        refine zw_7 zr_199_180 rfl ?_
                                        refine zw_46r (s := 84) zr_199_181 rfl rfl rfl rfl ?_
                                        refine zw_4 zr_199_184 rfl ?_
                                        refine zw_4 zr_199_186 rfl ?_
                                        refine zw_push zr_199_188 ?_
                                        refine zw_20 zr_199_189 (by omega) (by omega) (by omega) (by omega) ?_
                                        refine zw_49 (c := 84) (len := 10) zr_199_190 rfl rfl (by omega) (by omega) ?_
                                        intro m164 em164
                                        have hIm164 : zInv m164 := by rw [em164]; exact hIm133.any (by omega) rfl (by decide) (by decide)
                                        have hFm164 : zFr W_199 m0 m164 := by rw [em164]; exact hFm133.any rfl
                                        have km164_70_822 : m164 70 822 = f88 := by rw [em164, zUp_ne (by omega)]; exact km133_70_822
                                        have km164_70_823 : m164 70 823 = f107 := by rw [em164, zUp_ne (by omega)]; exact km133_70_823
                                        clear em164
                                        refine zw_4 zr_199_191 rfl ?_
                                        refine zw_push zr_199_193 ?_
                                        refine zw_19 zr_199_194 (by omega) (by omega) (by omega) (by omega) ?_
                                        refine zw_10 (L' := [(2, 69), (0, a0), (0, i109), (0, i115), (0, i116), (0, i117), (0, (i131 / 3)), (0, i132), (9, 0), (9, 0)]) zr_199_195 (Nat.le_of_ble_eq_true rfl) rfl ?_
                                        refine zw_15 (c := (-1)) (L' := [(2, 69), (0, a0), (0, i109), (0, i115), (0, i116), (0, i117), (0, (i131 / 3)), (0, (i132 + (-1))), (9, 0), (9, 0)]) zr_199_197 rfl (by decide) (by omega) rfl ?_
                                        refine zw_42 zr_199_200 ?_
                                        exact zw_less (L := [(2, 69), (0, a0), (0, i109), (0, i115), (0, i116), (0, i117), (0, (i131 / 3)), (0, (i132 + (-1))), (9, 0), (9, 0)]) ⟨Or.inr rfl, Or.inr rfl, Or.inr rfl, Or.inr rfl, Or.inr rfl, Or.inr rfl, Or.inr rfl, Or.inr rfl, Or.inl rfl, Or.inl rfl, trivial⟩ (ihlp175_134 ((i131 / 3)) ((i132 + (-1))) m164 hIm164 hFm164  km164_70_822 km164_70_823 (by omega) (by omega) (by omega) (by omega)  (by omega))
                                  exact lp175_134 _ (i117) ((f88 - 1)) m118 hIm118 hFm118  km118_70_822 km118_70_823 (by omega) (by omega) (by omega) (by omega)  (Nat.lt_succ_self _)
                            exact lp157_119 _ (0) ((-1)) (0) m111 hIm111 hFm111  km111_70_822 km111_70_823 (by omega) (by omega) (by omega) (by omega) (by omega) (by omega)  (Nat.lt_succ_self _)
                          · intro h165
                            refine zw_3 zr_199_139 rfl ?_
                            refine zw_push zr_199_140 ?_
                            refine zw_18h zr_199_141 ?_
                            intro x166 hx166a hx166b
                            refine zw_9 (L' := [(2, 69), (0, a0), (0, x166), (0, i110), (9, 0), (9, 0), (9, 0), (9, 0), (9, 0), (9, 0)]) zr_199_142 (Nat.le_of_ble_eq_true rfl) rfl ?_
                            refine zw_15 (c := 1) (L' := [(2, 69), (0, a0), (0, x166), (0, (i110 + 1)), (9, 0), (9, 0), (9, 0), (9, 0), (9, 0), (9, 0)]) zr_199_143 rfl (by decide) (by omega) rfl ?_
                            refine zw_42 zr_199_146 ?_
                            exact zw_less (L := [(2, 69), (0, a0), (0, x166), (0, (i110 + 1)), (9, 0), (9, 0), (9, 0), (9, 0), (9, 0), (9, 0)]) ⟨Or.inr rfl, Or.inr rfl, Or.inr rfl, Or.inr rfl, Or.inl rfl, Or.inl rfl, Or.inl rfl, Or.inl rfl, Or.inl rfl, Or.inl rfl, trivial⟩ (ihlp131_112 (x166) ((i110 + 1)) m111 hIm111 hFm111  km111_70_822 km111_70_823 (by omega) (by omega) (by omega) (by omega)  (by omega))
                      exact lp131_112 _ (1) (0) m104 hIm104 hFm104  km104_70_822 ef107 (by omega) (by omega) (by omega) (by omega)  (Nat.lt_succ_self _)
                    · intro h167
                      refine zw_7 zr_199_47 rfl ?_
                      refine zw_3 zr_199_48 rfl ?_
                      refine zw_push zr_199_49 ?_
                      refine zw_C zr_199_50 (Or.inl rfl) zm_144 rfl rfl ⟨Nat.le_of_ble_eq_true rfl, Nat.le_of_ble_eq_true rfl, Nat.le_of_ble_eq_true rfl, rfl, by decide⟩ (by omega) (P := (fun v m' => zW E (d) 199 53 [(2, 69), (0, a0), (0, i103), (9, 0), (9, 0), (9, 0), (9, 0), (9, 0), (9, 0), (9, 0)] (if v.1 = 9 then [] else v :: []) m' Q)) ?_ (fun _ _ h => h)
                      generalize hQ1 : (fun v m' => zW E (d) 199 53 [(2, 69), (0, a0), (0, i103), (9, 0), (9, 0), (9, 0), (9, 0), (9, 0), (9, 0), (9, 0)] (if v.1 = 9 then [] else v :: []) m' Q) = Q1
                      show zW E (d - 1) 144 0 [(2, 69), (0, i103), (0, 4)] [] m104 Q1
                      refine zw_7 zr_144_0 rfl ?_
                      refine zw_46r (s := 70) zr_144_1 rfl rfl rfl rfl ?_
                      refine zw_push zr_144_4 ?_
                      refine zw_push zr_144_6 ?_
                      refine zw_3 zr_144_8 rfl ?_
                      refine zw_18 zr_144_9 (by omega) ?_
                      refine zw_16 zr_144_10 (by omega) ?_
                      refine zw_3 zr_144_11 rfl ?_
                      refine zw_16 zr_144_12 (by omega) ?_
                      refine zw_48 (c := 70) (len := 826) zr_144_13 rfl rfl (by omega) (by omega) ?_
                      intro x168 ex168
                      have bx168 := ib_70_m4 hIm104 (k := (((90 + (6 * i103)) + 4)).toNat) (by omega)
                      rw [← ex168] at bx168
                      refine zw_R zr_144_14 (by decide) zm_144 (v := (0, x168)) rfl ?_
                      rw [← hQ1]
                      show zW E (d) 199 53 [(2, 69), (0, a0), (0, i103), (9, 0), (9, 0), (9, 0), (9, 0), (9, 0), (9, 0), (9, 0)] [(0, x168)] m104 Q
                      refine zw_40_4 zr_199_53 ?_ ?_
                      · intro h169
                        refine zw_15 (c := 1) (L' := [(2, 69), (0, a0), (0, (i103 + 1)), (9, 0), (9, 0), (9, 0), (9, 0), (9, 0), (9, 0), (9, 0)]) zr_199_121 rfl (by decide) (by omega) rfl ?_
                        refine zw_42 zr_199_124 ?_
                        exact zw_less (L := [(2, 69), (0, a0), (0, (i103 + 1)), (9, 0), (9, 0), (9, 0), (9, 0), (9, 0), (9, 0), (9, 0)]) ⟨Or.inr rfl, Or.inr rfl, Or.inr rfl, Or.inl rfl, Or.inl rfl, Or.inl rfl, Or.inl rfl, Or.inl rfl, Or.inl rfl, Or.inl rfl, trivial⟩ (ihlp39_105 ((i103 + 1)) m104 hIm104 hFm104  km104_70_822 (by omega) (by omega)  (by omega))
                      · intro h170
                        refine zw_7 zr_199_56 rfl ?_
                        refine zw_3 zr_199_57 rfl ?_
                        refine zw_push zr_199_58 ?_
                        refine zw_C zr_199_59 (Or.inl rfl) zm_144 rfl rfl ⟨Nat.le_of_ble_eq_true rfl, Nat.le_of_ble_eq_true rfl, Nat.le_of_ble_eq_true rfl, rfl, by decide⟩ (by omega) (P := (fun v m' => zW E (d) 199 62 [(2, 69), (0, a0), (0, i103), (9, 0), (9, 0), (9, 0), (9, 0), (9, 0), (9, 0), (9, 0)] (if v.1 = 9 then [] else v :: []) m' Q)) ?_ (fun _ _ h => h)
                        generalize hQ1 : (fun v m' => zW E (d) 199 62 [(2, 69), (0, a0), (0, i103), (9, 0), (9, 0), (9, 0), (9, 0), (9, 0), (9, 0), (9, 0)] (if v.1 = 9 then [] else v :: []) m' Q) = Q1
                        show zW E (d - 1) 144 0 [(2, 69), (0, i103), (0, 3)] [] m104 Q1
                        refine zw_7 zr_144_0 rfl ?_
                        refine zw_46r (s := 70) zr_144_1 rfl rfl rfl rfl ?_
                        refine zw_push zr_144_4 ?_
                        refine zw_push zr_144_6 ?_
                        refine zw_3 zr_144_8 rfl ?_
                        refine zw_18 zr_144_9 (by omega) ?_
                        refine zw_16 zr_144_10 (by omega) ?_
                        refine zw_3 zr_144_11 rfl ?_
                        refine zw_16 zr_144_12 (by omega) ?_
                        refine zw_48 (c := 70) (len := 826) zr_144_13 rfl rfl (by omega) (by omega) ?_
                        intro x171 ex171
                        have bx171 := ib_70_m3 hIm104 (k := (((90 + (6 * i103)) + 3)).toNat) (by omega)
                        rw [← ex171] at bx171
                        refine zw_R zr_144_14 (by decide) zm_144 (v := (0, x171)) rfl ?_
                        rw [← hQ1]
                        show zW E (d) 199 62 [(2, 69), (0, a0), (0, i103), (9, 0), (9, 0), (9, 0), (9, 0), (9, 0), (9, 0), (9, 0)] [(0, x171)] m104 Q
                        refine zw_push zr_199_62 ?_
                        refine zw_41_1 zr_199_63 ?_ ?_
                        · intro h172
                          refine zw_15 (c := 1) (L' := [(2, 69), (0, a0), (0, (i103 + 1)), (9, 0), (9, 0), (9, 0), (9, 0), (9, 0), (9, 0), (9, 0)]) zr_199_121 rfl (by decide) (by omega) rfl ?_
                          refine zw_42 zr_199_124 ?_
                          exact zw_less (L := [(2, 69), (0, a0), (0, (i103 + 1)), (9, 0), (9, 0), (9, 0), (9, 0), (9, 0), (9, 0), (9, 0)]) ⟨Or.inr rfl, Or.inr rfl, Or.inr rfl, Or.inl rfl, Or.inl rfl, Or.inl rfl, Or.inl rfl, Or.inl rfl, Or.inl rfl, Or.inl rfl, trivial⟩ (ihlp39_105 ((i103 + 1)) m104 hIm104 hFm104  km104_70_822 (by omega) (by omega)  (by omega))
                        · intro h173
                          refine zw_7 zr_199_66 rfl ?_
                          refine zw_3 zr_199_67 rfl ?_
                          refine zw_push zr_199_68 ?_
                          refine zw_C zr_199_69 (Or.inl rfl) zm_144 rfl rfl ⟨Nat.le_of_ble_eq_true rfl, Nat.le_of_ble_eq_true rfl, Nat.le_of_ble_eq_true rfl, rfl, by decide⟩ (by omega) (P := (fun v m' => zW E (d) 199 72 [(2, 69), (0, a0), (0, i103), (9, 0), (9, 0), (9, 0), (9, 0), (9, 0), (9, 0), (9, 0)] (if v.1 = 9 then [] else v :: []) m' Q)) ?_ (fun _ _ h => h)
                          generalize hQ1 : (fun v m' => zW E (d) 199 72 [(2, 69), (0, a0), (0, i103), (9, 0), (9, 0), (9, 0), (9, 0), (9, 0), (9, 0), (9, 0)] (if v.1 = 9 then [] else v :: []) m' Q) = Q1
                          show zW E (d - 1) 144 0 [(2, 69), (0, i103), (0, 3)] [] m104 Q1
                          refine zw_7 zr_144_0 rfl ?_
                          refine zw_46r (s := 70) zr_144_1 rfl rfl rfl rfl ?_
                          refine zw_push zr_144_4 ?_
                          refine zw_push zr_144_6 ?_
                          refine zw_3 zr_144_8 rfl ?_
                          refine zw_18 zr_144_9 (by omega) ?_
                          refine zw_16 zr_144_10 (by omega) ?_
                          refine zw_3 zr_144_11 rfl ?_
                          refine zw_16 zr_144_12 (by omega) ?_
                          refine zw_48k (c := 70) (len := 826) zr_144_13 rfl rfl (by omega) (by omega) rfl ex171.symm ?_
                          refine zw_R zr_144_14 (by decide) zm_144 (v := (0, x171)) rfl ?_
                          rw [← hQ1]
                          show zW E (d) 199 72 [(2, 69), (0, a0), (0, i103), (9, 0), (9, 0), (9, 0), (9, 0), (9, 0), (9, 0), (9, 0)] [(0, x171)] m104 Q
                          refine zw_push zr_199_72 ?_
                          refine zw_41_4 zr_199_73 ?_ ?_
                          · intro h174
                            refine zw_7 zr_199_85 rfl ?_
                            refine zw_3 zr_199_86 rfl ?_
                            refine zw_push zr_199_87 ?_
                            refine zw_C zr_199_88 (Or.inl rfl) zm_144 rfl rfl ⟨Nat.le_of_ble_eq_true rfl, Nat.le_of_ble_eq_true rfl, Nat.le_of_ble_eq_true rfl, rfl, by decide⟩ (by omega) (P := (fun v m' => zW E (d) 199 91 [(2, 69), (0, a0), (0, i103), (9, 0), (9, 0), (9, 0), (9, 0), (9, 0), (9, 0), (9, 0)] (if v.1 = 9 then [] else v :: []) m' Q)) ?_ (fun _ _ h => h)
                            generalize hQ1 : (fun v m' => zW E (d) 199 91 [(2, 69), (0, a0), (0, i103), (9, 0), (9, 0), (9, 0), (9, 0), (9, 0), (9, 0), (9, 0)] (if v.1 = 9 then [] else v :: []) m' Q) = Q1
                            show zW E (d - 1) 144 0 [(2, 69), (0, i103), (0, 2)] [] m104 Q1
                            refine zw_7 zr_144_0 rfl ?_
                            refine zw_46r (s := 70) zr_144_1 rfl rfl rfl rfl ?_
                            refine zw_push zr_144_4 ?_
                            refine zw_push zr_144_6 ?_
                            refine zw_3 zr_144_8 rfl ?_
                            refine zw_18 zr_144_9 (by omega) ?_
                            refine zw_16 zr_144_10 (by omega) ?_
                            refine zw_3 zr_144_11 rfl ?_
                            refine zw_16 zr_144_12 (by omega) ?_
                            refine zw_48 (c := 70) (len := 826) zr_144_13 rfl rfl (by omega) (by omega) ?_
                            intro x175 ex175
                            have bx175 := ib_70_m2 hIm104 (k := (((90 + (6 * i103)) + 2)).toNat) (by omega)
                            rw [← ex175] at bx175
                            refine zw_R zr_144_14 (by decide) zm_144 (v := (0, x175)) rfl ?_
                            rw [← hQ1]
                            show zW E (d) 199 91 [(2, 69), (0, a0), (0, i103), (9, 0), (9, 0), (9, 0), (9, 0), (9, 0), (9, 0), (9, 0)] [(0, x175)] m104 Q
                            refine zw_9 (L' := [(2, 69), (0, a0), (0, i103), (0, x175), (9, 0), (9, 0), (9, 0), (9, 0), (9, 0), (9, 0)]) zr_199_91 (Nat.le_of_ble_eq_true rfl) rfl ?_
                            refine zw_7 zr_199_92 rfl ?_
                            refine zw_46r (s := 83) zr_199_93 rfl rfl rfl rfl ?_
                            refine zw_push zr_199_96 ?_
                            refine zw_3 zr_199_98 rfl ?_
                            refine zw_18 zr_199_99 (by omega) ?_
                            refine zw_7 zr_199_100 rfl ?_
                            refine zw_3 zr_199_101 rfl ?_
                            refine zw_push zr_199_102 ?_
                            refine zw_C zr_199_103 (Or.inl rfl) zm_144 rfl rfl ⟨Nat.le_of_ble_eq_true rfl, Nat.le_of_ble_eq_true rfl, Nat.le_of_ble_eq_true rfl, rfl, by decide⟩ (by omega) (P := (fun v m' => zW E (d) 199 106 [(2, 69), (0, a0), (0, i103), (0, x175), (9, 0), (9, 0), (9, 0), (9, 0), (9, 0), (9, 0)] (if v.1 = 9 then [(0, (10 * x175)), (2, 83)] else v :: [(0, (10 * x175)), (2, 83)]) m' Q)) ?_ (fun _ _ h => h)
                            generalize hQ1 : (fun v m' => zW E (d) 199 106 [(2, 69), (0, a0), (0, i103), (0, x175), (9, 0), (9, 0), (9, 0), (9, 0), (9, 0), (9, 0)] (if v.1 = 9 then [(0, (10 * x175)), (2, 83)] else v :: [(0, (10 * x175)), (2, 83)]) m' Q) = Q1
                            show zW E (d - 1) 144 0 [(2, 69), (0, i103), (0, 1)] [] m104 Q1
                            refine zw_7 zr_144_0 rfl ?_
                            refine zw_46r (s := 70) zr_144_1 rfl rfl rfl rfl ?_
                            refine zw_push zr_144_4 ?_
                            refine zw_push zr_144_6 ?_
                            refine zw_3 zr_144_8 rfl ?_
                            refine zw_18 zr_144_9 (by omega) ?_
                            refine zw_16 zr_144_10 (by omega) ?_
                            refine zw_3 zr_144_11 rfl ?_
                            refine zw_16 zr_144_12 (by omega) ?_
                            refine zw_48 (c := 70) (len := 826) zr_144_13 rfl rfl (by omega) (by omega) ?_
                            intro x176 ex176
                            have bx176 := ib_70_m1 hIm104 (k := (((90 + (6 * i103)) + 1)).toNat) (by omega)
                            rw [← ex176] at bx176
                            refine zw_R zr_144_14 (by decide) zm_144 (v := (0, x176)) rfl ?_
                            rw [← hQ1]
                            show zW E (d) 199 106 [(2, 69), (0, a0), (0, i103), (0, x175), (9, 0), (9, 0), (9, 0), (9, 0), (9, 0), (9, 0)] [(0, x176), (0, (10 * x175)), (2, 83)] m104 Q
                            refine zw_16 zr_199_106 (by omega) ?_
                            refine zw_7 zr_199_107 rfl ?_
                            refine zw_3 zr_199_108 rfl ?_
                            refine zw_push zr_199_109 ?_
                            refine zw_C zr_199_110 (Or.inl rfl) zm_144 rfl rfl ⟨Nat.le_of_ble_eq_true rfl, Nat.le_of_ble_eq_true rfl, Nat.le_of_ble_eq_true rfl, rfl, by decide⟩ (by omega) (P := (fun v m' => zW E (d) 199 113 [(2, 69), (0, a0), (0, i103), (0, x175), (9, 0), (9, 0), (9, 0), (9, 0), (9, 0), (9, 0)] (if v.1 = 9 then [(0, ((10 * x175) + x176)), (2, 83)] else v :: [(0, ((10 * x175) + x176)), (2, 83)]) m' Q)) ?_ (fun _ _ h => h)
                            generalize hQ1 : (fun v m' => zW E (d) 199 113 [(2, 69), (0, a0), (0, i103), (0, x175), (9, 0), (9, 0), (9, 0), (9, 0), (9, 0), (9, 0)] (if v.1 = 9 then [(0, ((10 * x175) + x176)), (2, 83)] else v :: [(0, ((10 * x175) + x176)), (2, 83)]) m' Q) = Q1
                            show zW E (d - 1) 144 0 [(2, 69), (0, i103), (0, 2)] [] m104 Q1
                            refine zw_7 zr_144_0 rfl ?_
                            refine zw_46r (s := 70) zr_144_1 rfl rfl rfl rfl ?_
                            refine zw_push zr_144_4 ?_
                            refine zw_push zr_144_6 ?_
                            refine zw_3 zr_144_8 rfl ?_
                            refine zw_18 zr_144_9 (by omega) ?_
                            refine zw_16 zr_144_10 (by omega) ?_
                            refine zw_3 zr_144_11 rfl ?_
                            refine zw_16 zr_144_12 (by omega) ?_
                            refine zw_48k (c := 70) (len := 826) zr_144_13 rfl rfl (by omega) (by omega) rfl ex175.symm ?_
                            refine zw_R zr_144_14 (by decide) zm_144 (v := (0, x175)) rfl ?_
                            rw [← hQ1]
                            show zW E (d) 199 113 [(2, 69), (0, a0), (0, i103), (0, x175), (9, 0), (9, 0), (9, 0), (9, 0), (9, 0), (9, 0)] [(0, x175), (0, ((10 * x175) + x176)), (2, 83)] m104 Q
                            refine zw_16 zr_199_113 (by omega) ?_
                            refine zw_3 zr_199_114 rfl ?_
                            refine zw_17 zr_199_115 (by omega) ?_
                            refine zw_45 zr_199_116 ⟨rfl, rfl⟩ ?_
                            refine zw_48 (c := 83) (len := 100) zr_199_117 rfl rfl (by omega) (by omega) ?_
                            intro x177 ex177
                            have bx177 := hIm104.ra (c := 83) (len := 100) (k := (((((10 * x175) + x176) + x175) - x175)).toNat) rfl (by omega)
                            rw [← ex177] at bx177
                            clear ex177
                            refine zw_push zr_199_118 ?_
                            refine zw_16h zr_199_119 ?_
                            intro x178 hx178a hx178b
                            refine zw_49 (c := 83) (len := 100) zr_199_120 rfl rfl (by omega) (by omega) ?_
                            intro m179 em179
                            have hIm179 : zInv m179 := by rw [em179]; exact hIm104.any (by omega) rfl (by decide) (by decide)
                            have hFm179 : zFr W_199 m0 m179 := by rw [em179]; exact hFm104.any rfl
                            have km179_70_822 : m179 70 822 = f88 := by rw [em179, zUp_ne (by omega)]; exact km104_70_822
                            have km179_70_823 : m179 70 823 = f107 := by rw [em179, zUp_ne (by omega)]; exact ef107
                            clear em179
                            refine zw_15 (c := 1) (L' := [(2, 69), (0, a0), (0, (i103 + 1)), (0, x175), (9, 0), (9, 0), (9, 0), (9, 0), (9, 0), (9, 0)]) zr_199_121 rfl (by decide) (by omega) rfl ?_
                            refine zw_42 zr_199_124 ?_
                            exact zw_less (L := [(2, 69), (0, a0), (0, (i103 + 1)), (9, 0), (9, 0), (9, 0), (9, 0), (9, 0), (9, 0), (9, 0)]) ⟨Or.inr rfl, Or.inr rfl, Or.inr rfl, Or.inl rfl, Or.inl rfl, Or.inl rfl, Or.inl rfl, Or.inl rfl, Or.inl rfl, Or.inl rfl, trivial⟩ (ihlp39_105 ((i103 + 1)) m179 hIm179 hFm179  km179_70_822 (by omega) (by omega)  (by omega))
                          · intro h180
                            refine zw_7 zr_199_76 rfl ?_
                            refine zw_3 zr_199_77 rfl ?_
                            refine zw_push zr_199_78 ?_
                            refine zw_C zr_199_79 (Or.inl rfl) zm_144 rfl rfl ⟨Nat.le_of_ble_eq_true rfl, Nat.le_of_ble_eq_true rfl, Nat.le_of_ble_eq_true rfl, rfl, by decide⟩ (by omega) (P := (fun v m' => zW E (d) 199 82 [(2, 69), (0, a0), (0, i103), (9, 0), (9, 0), (9, 0), (9, 0), (9, 0), (9, 0), (9, 0)] (if v.1 = 9 then [] else v :: []) m' Q)) ?_ (fun _ _ h => h)
                            generalize hQ1 : (fun v m' => zW E (d) 199 82 [(2, 69), (0, a0), (0, i103), (9, 0), (9, 0), (9, 0), (9, 0), (9, 0), (9, 0), (9, 0)] (if v.1 = 9 then [] else v :: []) m' Q) = Q1
                            show zW E (d - 1) 144 0 [(2, 69), (0, i103), (0, 1)] [] m104 Q1
                            refine zw_7 zr_144_0 rfl ?_
                            refine zw_46r (s := 70) zr_144_1 rfl rfl rfl rfl ?_
                            refine zw_push zr_144_4 ?_
                            refine zw_push zr_144_6 ?_
                            refine zw_3 zr_144_8 rfl ?_
                            refine zw_18 zr_144_9 (by omega) ?_
                            refine zw_16 zr_144_10 (by omega) ?_
                            refine zw_3 zr_144_11 rfl ?_
                            refine zw_16 zr_144_12 (by omega) ?_
                            refine zw_48 (c := 70) (len := 826) zr_144_13 rfl rfl (by omega) (by omega) ?_
                            intro x181 ex181
                            have bx181 := ib_70_m1 hIm104 (k := (((90 + (6 * i103)) + 1)).toNat) (by omega)
                            rw [← ex181] at bx181
                            refine zw_R zr_144_14 (by decide) zm_144 (v := (0, x181)) rfl ?_
                            rw [← hQ1]
                            show zW E (d) 199 82 [(2, 69), (0, a0), (0, i103), (9, 0), (9, 0), (9, 0), (9, 0), (9, 0), (9, 0), (9, 0)] [(0, x181)] m104 Q
                            refine zw_42 zr_199_82 ?_
                            refine zw_9 (L' := [(2, 69), (0, a0), (0, i103), (0, x181), (9, 0), (9, 0), (9, 0), (9, 0), (9, 0), (9, 0)]) zr_199_91 (Nat.le_of_ble_eq_true rfl) rfl ?_
                            refine zw_7 zr_199_92 rfl ?_
                            refine zw_46r (s := 83) zr_199_93 rfl rfl rfl rfl ?_
                            refine zw_push zr_199_96 ?_
                            refine zw_3 zr_199_98 rfl ?_
                            refine zw_18 zr_199_99 (by omega) ?_
                            refine zw_7 zr_199_100 rfl ?_
                            refine zw_3 zr_199_101 rfl ?_
                            refine zw_push zr_199_102 ?_
                            refine zw_C zr_199_103 (Or.inl rfl) zm_144 rfl rfl ⟨Nat.le_of_ble_eq_true rfl, Nat.le_of_ble_eq_true rfl, Nat.le_of_ble_eq_true rfl, rfl, by decide⟩ (by omega) (P := (fun v m' => zW E (d) 199 106 [(2, 69), (0, a0), (0, i103), (0, x181), (9, 0), (9, 0), (9, 0), (9, 0), (9, 0), (9, 0)] (if v.1 = 9 then [(0, (10 * x181)), (2, 83)] else v :: [(0, (10 * x181)), (2, 83)]) m' Q)) ?_ (fun _ _ h => h)
                            generalize hQ1 : (fun v m' => zW E (d) 199 106 [(2, 69), (0, a0), (0, i103), (0, x181), (9, 0), (9, 0), (9, 0), (9, 0), (9, 0), (9, 0)] (if v.1 = 9 then [(0, (10 * x181)), (2, 83)] else v :: [(0, (10 * x181)), (2, 83)]) m' Q) = Q1
                            show zW E (d - 1) 144 0 [(2, 69), (0, i103), (0, 1)] [] m104 Q1
                            refine zw_7 zr_144_0 rfl ?_
                            refine zw_46r (s := 70) zr_144_1 rfl rfl rfl rfl ?_
                            refine zw_push zr_144_4 ?_
                            refine zw_push zr_144_6 ?_
                            refine zw_3 zr_144_8 rfl ?_
                            refine zw_18 zr_144_9 (by omega) ?_
                            refine zw_16 zr_144_10 (by omega) ?_
                            refine zw_3 zr_144_11 rfl ?_
                            refine zw_16 zr_144_12 (by omega) ?_
                            refine zw_48k (c := 70) (len := 826) zr_144_13 rfl rfl (by omega) (by omega) rfl ex181.symm ?_
                            refine zw_R zr_144_14 (by decide) zm_144 (v := (0, x181)) rfl ?_
                            rw [← hQ1]
                            show zW E (d) 199 106 [(2, 69), (0, a0), (0, i103), (0, x181), (9, 0), (9, 0), (9, 0), (9, 0), (9, 0), (9, 0)] [(0, x181), (0, (10 * x181)), (2, 83)] m104 Q
                            refine zw_16 zr_199_106 (by omega) ?_
                            refine zw_7 zr_199_107 rfl ?_
                            refine zw_3 zr_199_108 rfl ?_
                            refine zw_push zr_199_109 ?_
                            refine zw_C zr_199_110 (Or.inl rfl) zm_144 rfl rfl ⟨Nat.le_of_ble_eq_true rfl, Nat.le_of_ble_eq_true rfl, Nat.le_of_ble_eq_true rfl, rfl, by decide⟩ (by omega) (P := (fun v m' => zW E (d) 199 113 [(2, 69), (0, a0), (0, i103), (0, x181), (9, 0), (9, 0), (9, 0), (9, 0), (9, 0), (9, 0)] (if v.1 = 9 then [(0, ((10 * x181) + x181)), (2, 83)] else v :: [(0, ((10 * x181) + x181)), (2, 83)]) m' Q)) ?_ (fun _ _ h => h)
                            generalize hQ1 : (fun v m' => zW E (d) 199 113 [(2, 69), (0, a0), (0, i103), (0, x181), (9, 0), (9, 0), (9, 0), (9, 0), (9, 0), (9, 0)] (if v.1 = 9 then [(0, ((10 * x181) + x181)), (2, 83)] else v :: [(0, ((10 * x181) + x181)), (2, 83)]) m' Q) = Q1
                            show zW E (d - 1) 144 0 [(2, 69), (0, i103), (0, 2)] [] m104 Q1
                            refine zw_7 zr_144_0 rfl ?_
                            refine zw_46r (s := 70) zr_144_1 rfl rfl rfl rfl ?_
                            refine zw_push zr_144_4 ?_
                            refine zw_push zr_144_6 ?_
                            refine zw_3 zr_144_8 rfl ?_
                            refine zw_18 zr_144_9 (by omega) ?_
                            refine zw_16 zr_144_10 (by omega) ?_
                            refine zw_3 zr_144_11 rfl ?_
                            refine zw_16 zr_144_12 (by omega) ?_
                            refine zw_48 (c := 70) (len := 826) zr_144_13 rfl rfl (by omega) (by omega) ?_
                            intro x182 ex182
                            have bx182 := ib_70_m2 hIm104 (k := (((90 + (6 * i103)) + 2)).toNat) (by omega)
                            rw [← ex182] at bx182
                            refine zw_R zr_144_14 (by decide) zm_144 (v := (0, x182)) rfl ?_
                            rw [← hQ1]
                            show zW E (d) 199 113 [(2, 69), (0, a0), (0, i103), (0, x181), (9, 0), (9, 0), (9, 0), (9, 0), (9, 0), (9, 0)] [(0, x182), (0, ((10 * x181) + x181)), (2, 83)] m104 Q
                            refine zw_16 zr_199_113 (by omega) ?_
                            refine zw_3 zr_199_114 rfl ?_
                            refine zw_17 zr_199_115 (by omega) ?_
                            refine zw_45 zr_199_116 ⟨rfl, rfl⟩ ?_
                            refine zw_48 (c := 83) (len := 100) zr_199_117 rfl rfl (by omega) (by omega) ?_
                            intro x183 ex183
                            have bx183 := hIm104.ra (c := 83) (len := 100) (k := (((((10 * x181) + x181) + x182) - x181)).toNat) rfl (by omega)
                            rw [← ex183] at bx183
                            clear ex183
                            refine zw_push zr_199_118 ?_
                            refine zw_16h zr_199_119 ?_
                            intro x184 hx184a hx184b
                            refine zw_49 (c := 83) (len := 100) zr_199_120 rfl rfl (by omega) (by omega) ?_
                            intro m185 em185
                            have hIm185 : zInv m185 := by rw [em185]; exact hIm104.any (by omega) rfl (by decide) (by decide)
                            have hFm185 : zFr W_199 m0 m185 := by rw [em185]; exact hFm104.any rfl
                            have km185_70_822 : m185 70 822 = f88 := by rw [em185, zUp_ne (by omega)]; exact km104_70_822
                            have km185_70_823 : m185 70 823 = f107 := by rw [em185, zUp_ne (by omega)]; exact ef107
                            clear em185
                            refine zw_15 (c := 1) (L' := [(2, 69), (0, a0), (0, (i103 + 1)), (0, x181), (9, 0), (9, 0), (9, 0), (9, 0), (9, 0), (9, 0)]) zr_199_121 rfl (by decide) (by omega) rfl ?_
                            refine zw_42 zr_199_124 ?_
                            exact zw_less (L := [(2, 69), (0, a0), (0, (i103 + 1)), (9, 0), (9, 0), (9, 0), (9, 0), (9, 0), (9, 0), (9, 0)]) ⟨Or.inr rfl, Or.inr rfl, Or.inr rfl, Or.inl rfl, Or.inl rfl, Or.inl rfl, Or.inl rfl, Or.inl rfl, Or.inl rfl, Or.inl rfl, trivial⟩ (ihlp39_105 ((i103 + 1)) m185 hIm185 hFm185  km185_70_822 (by omega) (by omega)  (by omega))
                exact lp39_105 _ (0) m99 hIm99 hFm99  km99_70_822 (by omega) (by omega)  (Nat.lt_succ_self _)
              · intro h186
                refine zw_7 zr_199_24 rfl ?_
                refine zw_46r (s := 83) zr_199_25 rfl rfl rfl rfl ?_
                refine zw_3 zr_199_28 rfl ?_
                refine zw_push zr_199_29 ?_
                refine zw_49 (c := 83) (len := 100) zr_199_30 rfl rfl (by omega) (by omega) ?_
                intro m187 em187
                have hIm187 : zInv m187 := by rw [em187]; exact hIm99.any (by omega) rfl (by decide) (by decide)
                have hFm187 : zFr W_199 m0 m187 := by rw [em187]; exact hFm99.any rfl
                have km187_70_822 : m187 70 822 = f88 := by rw [em187, zUp_ne (by omega)]; exact km99_70_822
                clear em187
                refine zw_15 (c := 1) (L' := [(2, 69), (0, a0), (0, (i98 + 1)), (9, 0), (9, 0), (9, 0), (9, 0), (9, 0), (9, 0), (9, 0)]) zr_199_31 rfl (by decide) (by omega) rfl ?_
                refine zw_42 zr_199_34 ?_
                exact zw_less (L := [(2, 69), (0, a0), (0, (i98 + 1)), (9, 0), (9, 0), (9, 0), (9, 0), (9, 0), (9, 0), (9, 0)]) ⟨Or.inr rfl, Or.inr rfl, Or.inr rfl, Or.inl rfl, Or.inl rfl, Or.inl rfl, Or.inl rfl, Or.inl rfl, Or.inl rfl, Or.inl rfl, trivial⟩ (ihlp18_100 ((i98 + 1)) m187 hIm187 hFm187  km187_70_822 (by omega) (by omega)  (by omega))
          exact lp18_100 _ (0) m0 hI0 hF0  ef88 (by omega) (by omega)  (Nat.lt_succ_self _)
        · intro h188; omega
