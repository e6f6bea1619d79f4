abbrev W_188 : List (Nat × Nat) := [(81, 1000)]
set_option maxHeartbeats 8000000 in
theorem th_188 {E : zE} {d : Nat} {m0 : zM} (hd : 3 ≤ d) (hI0 : zInv m0) {a0 : Int} {a1 : Int} (ha0 : 0 ≤ a0 ∧ a0 ≤ 9) (ha1 : (-1) ≤ a1 ∧ a1 ≤ 59) : zC E d 188 [(2, 69), (0, a0), (0, a1)] m0 (fun v m' => v = (9, 0) ∧ zInv m' ∧ zFr W_188 m0 m') := by
  have hF0 : zFr W_188 m0 m0 := zFr.rfl
  generalize hQ : (fun (v : zV) (m' : zM) => v = (9, 0) ∧ zInv m' ∧ zFr W_188 m0 m') = Q
  show zW E d 188 0 [(2, 69), (0, a0), (0, a1), (9, 0), (9, 0), (9, 0), (9, 0)] [] m0 Q
  refine zw_push zr_188_0 ?_
  refine zw_9 (L' := [(2, 69), (0, a0), (0, a1), (0, 0), (9, 0), (9, 0), (9, 0)]) zr_188_1 (Nat.le_of_ble_eq_true rfl) rfl ?_
  have lp2_3 : ∀ (nlp2_3 : Nat) (i1 : Int) (m2 : zM), zInv m2 → zFr W_188 m0 m2 → 0 ≤ i1 → i1 ≤ 10 → (10 - i1).toNat < nlp2_3 → zW E (d) 188 2 [(2, 69), (0, a0), (0, a1), (0, i1), (9, 0), (9, 0), (9, 0)] [] m2 Q := by
    intro nlp2_3
    induction nlp2_3 with
    | zero =>
      intros
      exact absurd (by assumption : _ < 0) (Nat.not_lt_zero _)
    | succ nlp2_3 ihlp2_3 =>
      intro i1 m2 hIm2 hFm2 li1 ui1 hmlp2_3
      refine zw_3 zr_188_2 rfl ?_
      refine zw_push zr_188_3 ?_
      refine zw_41_3 zr_188_5 ?_ ?_
      · intro h5
        refine zw_push zr_188_31 ?_
        refine zw_9 (L' := [(2, 69), (0, a0), (0, a1), (0, 0), (9, 0), (9, 0), (9, 0)]) zr_188_32 (Nat.le_of_ble_eq_true rfl) rfl ?_
        have lp33_8 : ∀ (nlp33_8 : Nat) (i6 : Int) (m7 : zM), zInv m7 → zFr W_188 m0 m7 → 0 ≤ i6 → i6 ≤ 10 → (10 - i6).toNat < nlp33_8 → zW E (d) 188 33 [(2, 69), (0, a0), (0, a1), (0, i6), (9, 0), (9, 0), (9, 0)] [] m7 Q := by
          intro nlp33_8
          induction nlp33_8 with
          | zero =>
            intros
            exact absurd (by assumption : _ < 0) (Nat.not_lt_zero _)
          | succ nlp33_8 ihlp33_8 =>
            intro i6 m7 hIm7 hFm7 li6 ui6 hmlp33_8
            refine zw_3 zr_188_33 rfl ?_
            refine zw_push zr_188_34 ?_
            refine zw_41_3 zr_188_36 ?_ ?_
            · intro h10
              refine zw_R zr_188_186 (by decide) zm_188 (v := (9, 0)) rfl ?_
              rw [← hQ]; exact ⟨rfl, hIm7, hFm7⟩
            · intro h11
              refine zw_push zr_188_39 ?_
              refine zw_10 (L' := [(2, 69), (0, a0), (0, a1), (0, i6), (0, 0), (9, 0), (9, 0)]) zr_188_40 (Nat.le_of_ble_eq_true rfl) rfl ?_
              have lp42_14 : ∀ (nlp42_14 : Nat) (i12 : Int) (m13 : zM), zInv m13 → zFr W_188 m0 m13 → 0 ≤ i12 → i12 ≤ 60 → (60 - i12).toNat < nlp42_14 → zW E (d) 188 42 [(2, 69), (0, a0), (0, a1), (0, i6), (0, i12), (9, 0), (9, 0)] [] m13 Q := by
                intro nlp42_14
                induction nlp42_14 with
                | zero =>
                  intros
                  exact absurd (by assumption : _ < 0) (Nat.not_lt_zero _)
                | succ nlp42_14 ihlp42_14 =>
                  intro i12 m13 hIm13 hFm13 li12 ui12 hmlp42_14
                  refine zw_4 zr_188_42 rfl ?_
                  refine zw_7 zr_188_44 rfl ?_
                  refine zw_C zr_188_45 (Or.inl rfl) zm_142 rfl rfl ⟨Nat.le_of_ble_eq_true rfl, Nat.le_of_ble_eq_true rfl, Nat.le_of_ble_eq_true rfl, rfl, by decide⟩ (by omega) (P := (fun v m' => zW E (d) 188 48 [(2, 69), (0, a0), (0, a1), (0, i6), (0, i12), (9, 0), (9, 0)] (if v.1 = 9 then [(0, i12)] else v :: [(0, i12)]) m' Q)) ?_ (fun _ _ h => h)
                  generalize hQ1 : (fun v m' => zW E (d) 188 48 [(2, 69), (0, a0), (0, a1), (0, i6), (0, i12), (9, 0), (9, 0)] (if v.1 = 9 then [(0, i12)] else v :: [(0, i12)]) m' Q) = Q1
                  show zW E (d - 1) 142 0 [(2, 69)] [] m13 Q1
                  refine zw_7 zr_142_0 rfl ?_
                  refine zw_46r (s := 70) zr_142_1 rfl rfl rfl rfl ?_
                  refine zw_push zr_142_4 ?_
                  refine zw_48 (len := 826) zr_142_7 rfl rfl (by omega) (by omega) ?_
                  intro x16 ex16
                  have bx16 := ib_70_meetings hIm13 (k := (823).toNat) (by omega)
                  rw [← ex16] at bx16
                  clear ex16
                  refine zw_R zr_142_8 (by decide) zm_142 (v := (0, x16)) rfl ?_
                  rw [← hQ1]
                  show zW E (d) 188 48 [(2, 69), (0, a0), (0, a1), (0, i6), (0, i12), (9, 0), (9, 0)] [(0, x16), (0, i12)] m13 Q
                  refine zw_41_3 zr_188_48 ?_ ?_
                  · intro h17
                    refine zw_15 (c := 1) (L' := [(2, 69), (0, a0), (0, a1), (0, (i6 + 1)), (0, i12), (9, 0), (9, 0)]) zr_188_180 rfl (by decide) (by omega) rfl ?_
                    refine zw_42 zr_188_183 ?_
                    exact zw_less (L := [(2, 69), (0, a0), (0, a1), (0, (i6 + 1)), (9, 0), (9, 0), (9, 0)]) ⟨Or.inr rfl, Or.inr rfl, Or.inr rfl, Or.inr rfl, Or.inl rfl, Or.inl rfl, Or.inl rfl, trivial⟩ (ihlp33_8 ((i6 + 1)) m13 hIm13 hFm13   (by omega) (by omega) (by omega))
                  · intro h18
                    refine zw_7 zr_188_51 rfl ?_
                    refine zw_4 zr_188_52 rfl ?_
                    refine zw_C zr_188_54 (Or.inl rfl) zm_181 rfl rfl ⟨Nat.le_of_ble_eq_true rfl, Nat.le_of_ble_eq_true rfl, Nat.le_of_ble_eq_true rfl, rfl, by decide⟩ (by omega) (P := (fun v m' => zW E (d) 188 57 [(2, 69), (0, a0), (0, a1), (0, i6), (0, i12), (9, 0), (9, 0)] (if v.1 = 9 then [] else v :: []) m' Q)) ?_ (fun _ _ h => h)
                    generalize hQ1 : (fun v m' => zW E (d) 188 57 [(2, 69), (0, a0), (0, a1), (0, i6), (0, i12), (9, 0), (9, 0)] (if v.1 = 9 then [] else v :: []) m' Q) = Q1
                    show zW E (d - 1) 181 0 [(2, 69), (0, i12)] [] m13 Q1
                    refine zw_7 zr_181_0 rfl ?_
                    refine zw_3 zr_181_1 rfl ?_
                    refine zw_push zr_181_2 ?_
                    refine zw_C zr_181_3 (Or.inl rfl) zm_144 rfl rfl ⟨Nat.le_of_ble_eq_true rfl, Nat.le_of_ble_eq_true rfl, Nat.le_of_ble_eq_true rfl, rfl, by decide⟩ (by omega) (P := (fun v m' => zW E (d - 1) 181 6 [(2, 69), (0, i12)] (if v.1 = 9 then [] else v :: []) m' Q1)) ?_ (fun _ _ h => h)
                    generalize hQ2 : (fun v m' => zW E (d - 1) 181 6 [(2, 69), (0, i12)] (if v.1 = 9 then [] else v :: []) m' Q1) = Q2
                    show zW E (d - 1 - 1) 144 0 [(2, 69), (0, i12), (0, 4)] [] m13 Q2
                    refine zw_7 zr_144_0 rfl ?_
                    refine zw_46r (s := 70) zr_144_1 rfl rfl rfl rfl ?_
                    refine zw_push zr_144_4 ?_
                    refine zw_push zr_144_6 ?_
                    refine zw_3 zr_144_8 rfl ?_
                    refine zw_18 zr_144_9 (by omega) ?_
                    refine zw_16 zr_144_10 (by omega) ?_
                    refine zw_3 zr_144_11 rfl ?_
                    refine zw_16 zr_144_12 (by omega) ?_
                    refine zw_48 (len := 826) zr_144_13 rfl rfl (by omega) (by omega) ?_
                    intro x19 ex19
                    have bx19 := ib_70_m4 hIm13 (k := (((90 + (6 * i12)) + 4)).toNat) (by omega)
                    rw [← ex19] at bx19
                    clear ex19
                    refine zw_R zr_144_14 (by decide) zm_144 (v := (0, x19)) rfl ?_
                    rw [← hQ2]
                    show zW E (d - 1) 181 6 [(2, 69), (0, i12)] [(0, x19)] m13 Q1
                    refine zw_40_4 zr_181_6 ?_ ?_
                    · intro h20
                      refine zw_push zr_181_22 ?_
                      refine zw_R zr_181_23 (by decide) zm_181 (v := (0, 0)) (zRetB (by omega)) ?_
                      rw [← hQ1]
                      show zW E (d) 188 57 [(2, 69), (0, a0), (0, a1), (0, i6), (0, i12), (9, 0), (9, 0)] [(0, 0)] m13 Q
                      refine zw_40_1 zr_188_57 ?_ ?_
                      · intro h21
                        refine zw_15 (c := 1) (L' := [(2, 69), (0, a0), (0, a1), (0, i6), (0, (i12 + 1)), (9, 0), (9, 0)]) zr_188_174 rfl (by decide) (by omega) rfl ?_
                        refine zw_42 zr_188_177 ?_
                        exact zw_less (L := [(2, 69), (0, a0), (0, a1), (0, i6), (0, (i12 + 1)), (9, 0), (9, 0)]) ⟨Or.inr rfl, Or.inr rfl, Or.inr rfl, Or.inr rfl, Or.inr rfl, Or.inl rfl, Or.inl rfl, trivial⟩ (ihlp42_14 ((i12 + 1)) m13 hIm13 hFm13   (by omega) (by omega) (by omega))
                      · intro h22; omega
                    · intro h23
                      refine zw_7 zr_181_9 rfl ?_
                      refine zw_3 zr_181_10 rfl ?_
                      refine zw_push zr_181_11 ?_
                      refine zw_C zr_181_12 (Or.inl rfl) zm_144 rfl rfl ⟨Nat.le_of_ble_eq_true rfl, Nat.le_of_ble_eq_true rfl, Nat.le_of_ble_eq_true rfl, rfl, by decide⟩ (by omega) (P := (fun v m' => zW E (d - 1) 181 15 [(2, 69), (0, i12)] (if v.1 = 9 then [] else v :: []) m' Q1)) ?_ (fun _ _ h => h)
                      generalize hQ2 : (fun v m' => zW E (d - 1) 181 15 [(2, 69), (0, i12)] (if v.1 = 9 then [] else v :: []) m' Q1) = Q2
                      show zW E (d - 1 - 1) 144 0 [(2, 69), (0, i12), (0, 5)] [] m13 Q2
                      refine zw_7 zr_144_0 rfl ?_
                      refine zw_46r (s := 70) zr_144_1 rfl rfl rfl rfl ?_
                      refine zw_push zr_144_4 ?_
                      refine zw_push zr_144_6 ?_
                      refine zw_3 zr_144_8 rfl ?_
                      refine zw_18 zr_144_9 (by omega) ?_
                      refine zw_16 zr_144_10 (by omega) ?_
                      refine zw_3 zr_144_11 rfl ?_
                      refine zw_16 zr_144_12 (by omega) ?_
                      refine zw_48 (len := 826) zr_144_13 rfl rfl (by omega) (by omega) ?_
                      intro x24 ex24
                      have bx24 := ib_70_m5 hIm13 (k := (((90 + (6 * i12)) + 5)).toNat) (by omega)
                      rw [← ex24] at bx24
                      clear ex24
                      refine zw_R zr_144_14 (by decide) zm_144 (v := (0, x24)) rfl ?_
                      rw [← hQ2]
                      show zW E (d - 1) 181 15 [(2, 69), (0, i12)] [(0, x24)] m13 Q1
                      refine zw_40_4 zr_181_15 ?_ ?_
                      · intro h25
                        refine zw_push zr_181_22 ?_
                        refine zw_R zr_181_23 (by decide) zm_181 (v := (0, 0)) (zRetB (by omega)) ?_
                        rw [← hQ1]
                        show zW E (d) 188 57 [(2, 69), (0, a0), (0, a1), (0, i6), (0, i12), (9, 0), (9, 0)] [(0, 0)] m13 Q
                        refine zw_40_1 zr_188_57 ?_ ?_
                        · intro h26
                          refine zw_15 (c := 1) (L' := [(2, 69), (0, a0), (0, a1), (0, i6), (0, (i12 + 1)), (9, 0), (9, 0)]) zr_188_174 rfl (by decide) (by omega) rfl ?_
                          refine zw_42 zr_188_177 ?_
                          exact zw_less (L := [(2, 69), (0, a0), (0, a1), (0, i6), (0, (i12 + 1)), (9, 0), (9, 0)]) ⟨Or.inr rfl, Or.inr rfl, Or.inr rfl, Or.inr rfl, Or.inr rfl, Or.inl rfl, Or.inl rfl, trivial⟩ (ihlp42_14 ((i12 + 1)) m13 hIm13 hFm13   (by omega) (by omega) (by omega))
                        · intro h27; omega
                      · intro h28
                        refine zw_push zr_181_18 ?_
                        refine zw_42 zr_181_19 ?_
                        refine zw_R zr_181_23 (by decide) zm_181 (v := (0, 1)) (zRetB (by omega)) ?_
                        rw [← hQ1]
                        show zW E (d) 188 57 [(2, 69), (0, a0), (0, a1), (0, i6), (0, i12), (9, 0), (9, 0)] [(0, 1)] m13 Q
                        refine zw_40_1 zr_188_57 ?_ ?_
                        · intro h29; omega
                        · intro h30
                          refine zw_4 zr_188_60 rfl ?_
                          refine zw_3 zr_188_62 rfl ?_
                          refine zw_41_1 zr_188_63 ?_ ?_
                          · intro h31
                            refine zw_15 (c := 1) (L' := [(2, 69), (0, a0), (0, a1), (0, i6), (0, (i12 + 1)), (9, 0), (9, 0)]) zr_188_174 rfl (by decide) (by omega) rfl ?_
                            refine zw_42 zr_188_177 ?_
                            exact zw_less (L := [(2, 69), (0, a0), (0, a1), (0, i6), (0, (i12 + 1)), (9, 0), (9, 0)]) ⟨Or.inr rfl, Or.inr rfl, Or.inr rfl, Or.inr rfl, Or.inr rfl, Or.inl rfl, Or.inl rfl, trivial⟩ (ihlp42_14 ((i12 + 1)) m13 hIm13 hFm13   (by omega) (by omega) (by omega))
                          · intro h32
                            refine zw_7 zr_188_66 rfl ?_
                            refine zw_4 zr_188_67 rfl ?_
                            refine zw_push zr_188_69 ?_
                            refine zw_C zr_188_70 (Or.inl rfl) zm_144 rfl rfl ⟨Nat.le_of_ble_eq_true rfl, Nat.le_of_ble_eq_true rfl, Nat.le_of_ble_eq_true rfl, rfl, by decide⟩ (by omega) (P := (fun v m' => zW E (d) 188 73 [(2, 69), (0, a0), (0, a1), (0, i6), (0, i12), (9, 0), (9, 0)] (if v.1 = 9 then [] else v :: []) m' Q)) ?_ (fun _ _ h => h)
                            generalize hQ1 : (fun v m' => zW E (d) 188 73 [(2, 69), (0, a0), (0, a1), (0, i6), (0, i12), (9, 0), (9, 0)] (if v.1 = 9 then [] else v :: []) m' Q) = Q1
                            show zW E (d - 1) 144 0 [(2, 69), (0, i12), (0, 1)] [] m13 Q1
                            refine zw_7 zr_144_0 rfl ?_
                            refine zw_46r (s := 70) zr_144_1 rfl rfl rfl rfl ?_
                            refine zw_push zr_144_4 ?_
                            refine zw_push zr_144_6 ?_
                            refine zw_3 zr_144_8 rfl ?_
                            refine zw_18 zr_144_9 (by omega) ?_
                            refine zw_16 zr_144_10 (by omega) ?_
                            refine zw_3 zr_144_11 rfl ?_
                            refine zw_16 zr_144_12 (by omega) ?_
                            refine zw_48 (len := 826) zr_144_13 rfl rfl (by omega) (by omega) ?_
                            intro x33 ex33
                            have bx33 := ib_70_m1 hIm13 (k := (((90 + (6 * i12)) + 1)).toNat) (by omega)
                            rw [← ex33] at bx33
                            clear ex33
                            refine zw_R zr_144_14 (by decide) zm_144 (v := (0, x33)) rfl ?_
                            rw [← hQ1]
                            show zW E (d) 188 73 [(2, 69), (0, a0), (0, a1), (0, i6), (0, i12), (9, 0), (9, 0)] [(0, x33)] m13 Q
                            refine zw_10 (L' := [(2, 69), (0, a0), (0, a1), (0, i6), (0, i12), (0, x33), (9, 0)]) zr_188_73 (Nat.le_of_ble_eq_true rfl) rfl ?_
                            refine zw_7 zr_188_75 rfl ?_
                            refine zw_4 zr_188_76 rfl ?_
                            refine zw_push zr_188_78 ?_
                            refine zw_C zr_188_79 (Or.inl rfl) zm_144 rfl rfl ⟨Nat.le_of_ble_eq_true rfl, Nat.le_of_ble_eq_true rfl, Nat.le_of_ble_eq_true rfl, rfl, by decide⟩ (by omega) (P := (fun v m' => zW E (d) 188 82 [(2, 69), (0, a0), (0, a1), (0, i6), (0, i12), (0, x33), (9, 0)] (if v.1 = 9 then [] else v :: []) m' Q)) ?_ (fun _ _ h => h)
                            generalize hQ1 : (fun v m' => zW E (d) 188 82 [(2, 69), (0, a0), (0, a1), (0, i6), (0, i12), (0, x33), (9, 0)] (if v.1 = 9 then [] else v :: []) m' Q) = Q1
                            show zW E (d - 1) 144 0 [(2, 69), (0, i12), (0, 2)] [] m13 Q1
                            refine zw_7 zr_144_0 rfl ?_
                            refine zw_46r (s := 70) zr_144_1 rfl rfl rfl rfl ?_
                            refine zw_push zr_144_4 ?_
                            refine zw_push zr_144_6 ?_
                            refine zw_3 zr_144_8 rfl ?_
                            refine zw_18 zr_144_9 (by omega) ?_
                            refine zw_16 zr_144_10 (by omega) ?_
                            refine zw_3 zr_144_11 rfl ?_
                            refine zw_16 zr_144_12 (by omega) ?_
                            refine zw_48 (len := 826) zr_144_13 rfl rfl (by omega) (by omega) ?_
                            intro x34 ex34
                            have bx34 := ib_70_m2 hIm13 (k := (((90 + (6 * i12)) + 2)).toNat) (by omega)
                            rw [← ex34] at bx34
                            clear ex34
                            refine zw_R zr_144_14 (by decide) zm_144 (v := (0, x34)) rfl ?_
                            rw [← hQ1]
                            show zW E (d) 188 82 [(2, 69), (0, a0), (0, a1), (0, i6), (0, i12), (0, x33), (9, 0)] [(0, x34)] m13 Q
                            refine zw_10 (L' := [(2, 69), (0, a0), (0, a1), (0, i6), (0, i12), (0, x33), (0, x34)]) zr_188_82 (Nat.le_of_ble_eq_true rfl) rfl ?_
                            refine zw_7 zr_188_84 rfl ?_
                            refine zw_46r (s := 81) zr_188_85 rfl rfl rfl rfl ?_
                            refine zw_4 zr_188_88 rfl ?_
                            refine zw_7 zr_188_90 rfl ?_
                            refine zw_46r (s := 81) zr_188_91 rfl rfl rfl rfl ?_
                            refine zw_4 zr_188_94 rfl ?_
                            refine zw_48 (len := 10) zr_188_96 rfl rfl (by omega) (by omega) ?_
                            intro x35 ex35
                            clear ex35
                            refine zw_push zr_188_97 ?_
                            refine zw_16h zr_188_98 ?_
                            intro x36 hx36a hx36b
                            refine zw_7 zr_188_99 rfl ?_
                            refine zw_46r (s := 81) zr_188_100 rfl rfl rfl rfl ?_
                            refine zw_4 zr_188_103 rfl ?_
                            refine zw_48 (len := 10) zr_188_105 rfl rfl (by omega) (by omega) ?_
                            intro x37 ex37
                            clear ex37
                            refine zw_41_3 zr_188_106 ?_ ?_
                            · intro h38
                              refine zw_7 zr_188_121 rfl ?_
                              refine zw_46r (s := 81) zr_188_122 rfl rfl rfl rfl ?_
                              refine zw_4 zr_188_125 rfl ?_
                              refine zw_48 (len := 10) zr_188_127 rfl rfl (by omega) (by omega) ?_
                              intro x39 ex39
                              clear ex39
                              refine zw_49 (len := 10) zr_188_128 rfl rfl (by omega) (by omega) ?_
                              intro m40 em40
                              have hIm40 : zInv m40 := by rw [em40]; exact hIm13.any rfl (by decide) (by decide)
                              have hFm40 : zFr W_188 m0 m40 := by rw [em40]; exact hFm13.any rfl
                              clear em40
                              refine zw_7 zr_188_129 rfl ?_
                              refine zw_46r (s := 81) zr_188_130 rfl rfl rfl rfl ?_
                              refine zw_4 zr_188_133 rfl ?_
                              refine zw_7 zr_188_135 rfl ?_
                              refine zw_46r (s := 81) zr_188_136 rfl rfl rfl rfl ?_
                              refine zw_4 zr_188_139 rfl ?_
                              refine zw_48 (len := 10) zr_188_141 rfl rfl (by omega) (by omega) ?_
                              intro x41 ex41
                              clear ex41
                              refine zw_push zr_188_142 ?_
                              refine zw_16h zr_188_143 ?_
                              intro x42 hx42a hx42b
                              refine zw_7 zr_188_144 rfl ?_
                              refine zw_46r (s := 81) zr_188_145 rfl rfl rfl rfl ?_
                              refine zw_4 zr_188_148 rfl ?_
                              refine zw_48 (len := 10) zr_188_150 rfl rfl (by omega) (by omega) ?_
                              intro x43 ex43
                              clear ex43
                              refine zw_41_3 zr_188_151 ?_ ?_
                              · intro h44
                                refine zw_7 zr_188_166 rfl ?_
                                refine zw_46r (s := 81) zr_188_167 rfl rfl rfl rfl ?_
                                refine zw_4 zr_188_170 rfl ?_
                                refine zw_48 (len := 10) zr_188_172 rfl rfl (by omega) (by omega) ?_
                                intro x45 ex45
                                clear ex45
                                refine zw_49 (len := 10) zr_188_173 rfl rfl (by omega) (by omega) ?_
                                intro m46 em46
                                have hIm46 : zInv m46 := by rw [em46]; exact hIm40.any rfl (by decide) (by decide)
                                have hFm46 : zFr W_188 m0 m46 := by rw [em46]; exact hFm40.any rfl
                                clear em46
                                refine zw_15 (c := 1) (L' := [(2, 69), (0, a0), (0, a1), (0, i6), (0, (i12 + 1)), (0, x33), (0, x34)]) zr_188_174 rfl (by decide) (by omega) rfl ?_
                                refine zw_42 zr_188_177 ?_
                                exact zw_less (L := [(2, 69), (0, a0), (0, a1), (0, i6), (0, (i12 + 1)), (9, 0), (9, 0)]) ⟨Or.inr rfl, Or.inr rfl, Or.inr rfl, Or.inr rfl, Or.inr rfl, Or.inl rfl, Or.inl rfl, trivial⟩ (ihlp42_14 ((i12 + 1)) m46 hIm46 hFm46   (by omega) (by omega) (by omega))
                              · intro h47
                                refine zw_7 zr_188_154 rfl ?_
                                refine zw_46r (s := 81) zr_188_155 rfl rfl rfl rfl ?_
                                refine zw_4 zr_188_158 rfl ?_
                                refine zw_48 (len := 10) zr_188_160 rfl rfl (by omega) (by omega) ?_
                                intro x48 ex48
                                clear ex48
                                refine zw_push zr_188_161 ?_
                                refine zw_16h zr_188_162 ?_
                                intro x49 hx49a hx49b
                                refine zw_42 zr_188_163 ?_
                                refine zw_49 (len := 10) zr_188_173 rfl rfl (by omega) (by omega) ?_
                                intro m50 em50
                                have hIm50 : zInv m50 := by rw [em50]; exact hIm40.any rfl (by decide) (by decide)
                                have hFm50 : zFr W_188 m0 m50 := by rw [em50]; exact hFm40.any rfl
                                clear em50
                                refine zw_15 (c := 1) (L' := [(2, 69), (0, a0), (0, a1), (0, i6), (0, (i12 + 1)), (0, x33), (0, x34)]) zr_188_174 rfl (by decide) (by omega) rfl ?_
                                refine zw_42 zr_188_177 ?_
                                exact zw_less (L := [(2, 69), (0, a0), (0, a1), (0, i6), (0, (i12 + 1)), (9, 0), (9, 0)]) ⟨Or.inr rfl, Or.inr rfl, Or.inr rfl, Or.inr rfl, Or.inr rfl, Or.inl rfl, Or.inl rfl, trivial⟩ (ihlp42_14 ((i12 + 1)) m50 hIm50 hFm50   (by omega) (by omega) (by omega))
                            · intro h51
                              refine zw_7 zr_188_109 rfl ?_
                              refine zw_46r (s := 81) zr_188_110 rfl rfl rfl rfl ?_
                              refine zw_4 zr_188_113 rfl ?_
                              refine zw_48 (len := 10) zr_188_115 rfl rfl (by omega) (by omega) ?_
                              intro x52 ex52
                              clear ex52
                              refine zw_push zr_188_116 ?_
                              refine zw_16h zr_188_117 ?_
                              intro x53 hx53a hx53b
                              refine zw_42 zr_188_118 ?_
                              refine zw_49 (len := 10) zr_188_128 rfl rfl (by omega) (by omega) ?_
                              intro m54 em54
                              have hIm54 : zInv m54 := by rw [em54]; exact hIm13.any rfl (by decide) (by decide)
                              have hFm54 : zFr W_188 m0 m54 := by rw [em54]; exact hFm13.any rfl
                              clear em54
                              refine zw_7 zr_188_129 rfl ?_
                              refine zw_46r (s := 81) zr_188_130 rfl rfl rfl rfl ?_
                              refine zw_4 zr_188_133 rfl ?_
                              refine zw_7 zr_188_135 rfl ?_
                              refine zw_46r (s := 81) zr_188_136 rfl rfl rfl rfl ?_
                              refine zw_4 zr_188_139 rfl ?_
                              refine zw_48 (len := 10) zr_188_141 rfl rfl (by omega) (by omega) ?_
                              intro x55 ex55
                              clear ex55
                              refine zw_push zr_188_142 ?_
                              refine zw_16h zr_188_143 ?_
                              intro x56 hx56a hx56b
                              refine zw_7 zr_188_144 rfl ?_
                              refine zw_46r (s := 81) zr_188_145 rfl rfl rfl rfl ?_
                              refine zw_4 zr_188_148 rfl ?_
                              refine zw_48 (len := 10) zr_188_150 rfl rfl (by omega) (by omega) ?_
                              intro x57 ex57
                              clear ex57
                              refine zw_41_3 zr_188_151 ?_ ?_
                              · intro h58
                                refine zw_7 zr_188_166 rfl ?_
                                refine zw_46r (s := 81) zr_188_167 rfl rfl rfl rfl ?_
                                refine zw_4 zr_188_170 rfl ?_
                                refine zw_48 (len := 10) zr_188_172 rfl rfl (by omega) (by omega) ?_
                                intro x59 ex59
                                clear ex59
                                refine zw_49 (len := 10) zr_188_173 rfl rfl (by omega) (by omega) ?_
                                intro m60 em60
                                have hIm60 : zInv m60 := by rw [em60]; exact hIm54.any rfl (by decide) (by decide)
                                have hFm60 : zFr W_188 m0 m60 := by rw [em60]; exact hFm54.any rfl
                                clear em60
                                refine zw_15 (c := 1) (L' := [(2, 69), (0, a0), (0, a1), (0, i6), (0, (i12 + 1)), (0, x33), (0, x34)]) zr_188_174 rfl (by decide) (by omega) rfl ?_
                                refine zw_42 zr_188_177 ?_
                                exact zw_less (L := [(2, 69), (0, a0), (0, a1), (0, i6), (0, (i12 + 1)), (9, 0), (9, 0)]) ⟨Or.inr rfl, Or.inr rfl, Or.inr rfl, Or.inr rfl, Or.inr rfl, Or.inl rfl, Or.inl rfl, trivial⟩ (ihlp42_14 ((i12 + 1)) m60 hIm60 hFm60   (by omega) (by omega) (by omega))
                              · intro h61
                                refine zw_7 zr_188_154 rfl ?_
                                refine zw_46r (s := 81) zr_188_155 rfl rfl rfl rfl ?_
                                refine zw_4 zr_188_158 rfl ?_
                                refine zw_48 (len := 10) zr_188_160 rfl rfl (by omega) (by omega) ?_
                                intro x62 ex62
                                clear ex62
                                refine zw_push zr_188_161 ?_
                                refine zw_16h zr_188_162 ?_
                                intro x63 hx63a hx63b
                                refine zw_42 zr_188_163 ?_
                                refine zw_49 (len := 10) zr_188_173 rfl rfl (by omega) (by omega) ?_
                                intro m64 em64
                                have hIm64 : zInv m64 := by rw [em64]; exact hIm54.any rfl (by decide) (by decide)
                                have hFm64 : zFr W_188 m0 m64 := by rw [em64]; exact hFm54.any rfl
                                clear em64
                                refine zw_15 (c := 1) (L' := [(2, 69), (0, a0), (0, a1), (0, i6), (0, (i12 + 1)), (0, x33), (0, x34)]) zr_188_174 rfl (by decide) (by omega) rfl ?_
                                refine zw_42 zr_188_177 ?_
                                exact zw_less (L := [(2, 69), (0, a0), (0, a1), (0, i6), (0, (i12 + 1)), (9, 0), (9, 0)]) ⟨Or.inr rfl, Or.inr rfl, Or.inr rfl, Or.inr rfl, Or.inr rfl, Or.inl rfl, Or.inl rfl, trivial⟩ (ihlp42_14 ((i12 + 1)) m64 hIm64 hFm64   (by omega) (by omega) (by omega))
              exact lp42_14 _ (0) m7 hIm7 hFm7   (by omega) (by omega) (Nat.lt_succ_self _)
        exact lp33_8 _ (0) m2 hIm2 hFm2   (by omega) (by omega) (Nat.lt_succ_self _)
      · intro h65
        refine zw_7 zr_188_8 rfl ?_
        refine zw_46r (s := 81) zr_188_9 rfl rfl rfl rfl ?_
        refine zw_3 zr_188_12 rfl ?_
        refine zw_3 zr_188_13 rfl ?_
        refine zw_3 zr_188_14 rfl ?_
        refine zw_41_4 zr_188_15 ?_ ?_
        · intro h66
          refine zw_push zr_188_22 ?_
          refine zw_49 (len := 10) zr_188_24 rfl rfl (by omega) (by omega) ?_
          intro m67 em67
          have hIm67 : zInv m67 := by rw [em67]; exact hIm2.any rfl (by decide) (by decide)
          have hFm67 : zFr W_188 m0 m67 := by rw [em67]; exact hFm2.any rfl
          clear em67
          refine zw_15 (c := 1) (L' := [(2, 69), (0, a0), (0, a1), (0, (i1 + 1)), (9, 0), (9, 0), (9, 0)]) zr_188_25 rfl (by decide) (by omega) rfl ?_
          refine zw_42 zr_188_28 ?_
          exact zw_less (L := [(2, 69), (0, a0), (0, a1), (0, (i1 + 1)), (9, 0), (9, 0), (9, 0)]) ⟨Or.inr rfl, Or.inr rfl, Or.inr rfl, Or.inr rfl, Or.inl rfl, Or.inl rfl, Or.inl rfl, trivial⟩ (ihlp2_3 ((i1 + 1)) m67 hIm67 hFm67   (by omega) (by omega) (by omega))
        · intro h68
          refine zw_push zr_188_18 ?_
          refine zw_42 zr_188_19 ?_
          refine zw_49 (len := 10) zr_188_24 rfl rfl (by omega) (by omega) ?_
          intro m69 em69
          have hIm69 : zInv m69 := by rw [em69]; exact hIm2.any rfl (by decide) (by decide)
          have hFm69 : zFr W_188 m0 m69 := by rw [em69]; exact hFm2.any rfl
          clear em69
          refine zw_15 (c := 1) (L' := [(2, 69), (0, a0), (0, a1), (0, (i1 + 1)), (9, 0), (9, 0), (9, 0)]) zr_188_25 rfl (by decide) (by omega) rfl ?_
          refine zw_42 zr_188_28 ?_
          exact zw_less (L := [(2, 69), (0, a0), (0, a1), (0, (i1 + 1)), (9, 0), (9, 0), (9, 0)]) ⟨Or.inr rfl, Or.inr rfl, Or.inr rfl, Or.inr rfl, Or.inl rfl, Or.inl rfl, Or.inl rfl, trivial⟩ (ihlp2_3 ((i1 + 1)) m69 hIm69 hFm69   (by omega) (by omega) (by omega))
  exact lp2_3 _ (0) m0 hI0 hF0   (by omega) (by omega) (Nat.lt_succ_self _)

abbrev W_76 : List (Nat × Nat) := [(61, 1000), (62, 1000)]
set_option maxHeartbeats 8000000 in
theorem th_76 {E : zE} {d : Nat} {m0 : zM} (hd : 3 ≤ d) (hI0 : zInv m0) : zC E d 76 [(2, 60)] m0 (fun v m' => ∃ r : Int, v = (1, r) ∧ (-9223372036854775808) ≤ r ∧ r ≤ 9223372036854775807 ∧ zInv m' ∧ zFr W_76 m0 m') := by
  have hF0 : zFr W_76 m0 m0 := zFr.rfl
  generalize hQ : (fun (v : zV) (m' : zM) => ∃ r : Int, v = (1, r) ∧ (-9223372036854775808) ≤ r ∧ r ≤ 9223372036854775807 ∧ zInv m' ∧ zFr W_76 m0 m') = Q
  show zW E d 76 0 [(2, 60), (9, 0), (9, 0), (9, 0), (9, 0), (9, 0), (9, 0), (9, 0)] [] m0 Q
  refine zw_7 zr_76_0 rfl ?_
  refine zw_46r (s := 1) zr_76_1 rfl rfl rfl rfl ?_
  refine zw_C zr_76_4 (Or.inl rfl) zm_53 rfl rfl ⟨Nat.le_of_ble_eq_true rfl, Nat.le_of_ble_eq_true rfl, Nat.le_of_ble_eq_true rfl, rfl, by decide⟩ (by omega) (th_53 (d := d - 1) (by omega) hI0  ) ?_
  rintro _ _ ⟨r1, rfl, hr1a, hr1b, rfl⟩
  show zW E (d) 76 7 [(2, 60), (9, 0), (9, 0), (9, 0), (9, 0), (9, 0), (9, 0), (9, 0)] [(1, r1)] m0 Q
  refine zw_13 (L' := [(2, 60), (1, r1), (9, 0), (9, 0), (9, 0), (9, 0), (9, 0), (9, 0)]) zr_76_7 (Nat.le_of_ble_eq_true rfl) rfl ?_
  refine zw_push zr_76_8 ?_
  refine zw_13 (L' := [(2, 60), (1, r1), (9, 0), (1, 0), (9, 0), (9, 0), (9, 0), (9, 0)]) zr_76_9 (Nat.le_of_ble_eq_true rfl) rfl ?_
  refine zw_push zr_76_10 ?_
  refine zw_10 (L' := [(2, 60), (1, r1), (9, 0), (1, 0), (9, 0), (0, 0), (9, 0), (9, 0)]) zr_76_11 (Nat.le_of_ble_eq_true rfl) rfl ?_
  have lp13_5 : ∀ (nlp13_5 : Nat) (i2 i3 : Int) (m4 : zM), zInv m4 → zFr W_76 m0 m4 → (-9223372036854775808) ≤ i2 → i2 ≤ 9223372036854775807 → 0 ≤ i3 → i3 ≤ 60 → (60 - i3).toNat < nlp13_5 → zW E (d) 76 13 [(2, 60), (1, r1), (9, 0), (1, i2), (9, 0), (0, i3), (9, 0), (9, 0)] [] m4 Q := by
    intro nlp13_5
    induction nlp13_5 with
    | zero =>
      intros
      exact absurd (by assumption : _ < 0) (Nat.not_lt_zero _)
    | succ nlp13_5 ihlp13_5 =>
      intro i2 i3 m4 hIm4 hFm4 li2 ui2 li3 ui3 hmlp13_5
      refine zw_4 zr_76_13 rfl ?_
      refine zw_7 zr_76_15 rfl ?_
      refine zw_46r (s := 1) zr_76_16 rfl rfl rfl rfl ?_
      obtain ⟨f7, ef7⟩ : ∃ v, m4 1 1 = v := ⟨_, rfl⟩
      have bf7 := ib_1_1 hIm4
      rw [ef7] at bf7
      refine zw_46i zr_76_19 ef7 rfl rfl rfl ?_
      refine zw_41_3 zr_76_22 ?_ ?_
      · intro h8
        refine zw_5 zr_76_100 rfl ?_
        refine zw_R zr_76_101 (by decide) zm_76 (v := (1, i2)) rfl ?_
        rw [← hQ]; exact ⟨_, rfl, by omega, by omega, hIm4, hFm4⟩
      · intro h9
        refine zw_push zr_76_25 ?_
        refine zw_4 zr_76_26 rfl ?_
        refine zw_33h zr_76_28 ?_
        intro x10 hx10a hx10b
        refine zw_14 (L' := [(2, 60), (1, r1), (9, 0), (1, i2), (9, 0), (0, i3), (1, x10), (9, 0)]) zr_76_29 (Nat.le_of_ble_eq_true rfl) rfl ?_
        refine zw_5 zr_76_31 rfl ?_
        refine zw_6 zr_76_32 rfl ?_
        refine zw_30h zr_76_34 ?_
        intro x11 hx11a hx11b
        refine zw_push zr_76_35 ?_
        refine zw_39_1 zr_76_36 zr_76_37 ?_ ?_
        · intro h12
          refine zw_15 (c := 1) (L' := [(2, 60), (1, r1), (9, 0), (1, i2), (9, 0), (0, (i3 + 1)), (1, x10), (9, 0)]) zr_76_94 rfl (by decide) (by omega) rfl ?_
          refine zw_42 zr_76_97 ?_
          exact zw_less (L := [(2, 60), (1, r1), (9, 0), (1, i2), (9, 0), (0, (i3 + 1)), (9, 0), (9, 0)]) ⟨Or.inr rfl, Or.inr rfl, Or.inl rfl, Or.inr rfl, Or.inl rfl, Or.inr rfl, Or.inl rfl, Or.inl rfl, trivial⟩ (ihlp13_5 (i2) ((i3 + 1)) m4 hIm4 hFm4   (by omega) (by omega) (by omega) (by omega) (by omega))
        · intro h13
          refine zw_7 zr_76_40 rfl ?_
          refine zw_5 zr_76_41 rfl ?_
          refine zw_6 zr_76_42 rfl ?_
          refine zw_push zr_76_44 ?_
          refine zw_32h zr_76_47 ?_
          intro x14 hx14a hx14b
          refine zw_30h zr_76_48 ?_
          intro x15 hx15a hx15b
          refine zw_C zr_76_49 (Or.inl rfl) zm_66 rfl rfl ⟨Nat.le_of_ble_eq_true rfl, Nat.le_of_ble_eq_true rfl, Nat.le_of_ble_eq_true rfl, rfl, by decide⟩ (by omega) (th_66 (d := d - 1) (by omega) hIm4 (a0 := x15) (by omega)) ?_
          rintro _ m16 ⟨rfl, hIm16, gm16⟩
          have hFm16 : zFr W_76 m0 m16 := hFm4.trans gm16 rfl
          have km16_1_1 : m16 1 1 = f7 := (gm16 1 1 rfl).trans ef7
          show zW E (d) 76 52 [(2, 60), (1, r1), (9, 0), (1, i2), (9, 0), (0, i3), (1, x10), (9, 0)] [] m16 Q
          refine zw_7 zr_76_52 rfl ?_
          refine zw_7 zr_76_53 rfl ?_
          refine zw_46r (s := 1) zr_76_54 rfl rfl rfl rfl ?_
          refine zw_46r (s := 6) zr_76_57 rfl rfl rfl rfl ?_
          refine zw_4 zr_76_60 rfl ?_
          refine zw_48 (len := 60) zr_76_62 rfl rfl (by omega) (by omega) ?_
          intro x17 ex17
          have bx17 := ib_6 hIm16 (k := (i3).toNat) (by omega)
          rw [← ex17] at bx17
          clear ex17
          refine zw_C zr_76_63 (Or.inl rfl) zm_67 rfl rfl ⟨Nat.le_of_ble_eq_true rfl, Nat.le_of_ble_eq_true rfl, Nat.le_of_ble_eq_true rfl, rfl, by decide⟩ (by omega) (th_67 (d := d - 1) (by omega) hIm16 (a0 := x17) (by omega)) ?_
          rintro _ m18 ⟨rfl, hIm18, gm18⟩
          have hFm18 : zFr W_76 m0 m18 := hFm16.trans gm18 rfl
          have km18_1_1 : m18 1 1 = f7 := (gm18 1 1 rfl).trans km16_1_1
          show zW E (d) 76 66 [(2, 60), (1, r1), (9, 0), (1, i2), (9, 0), (0, i3), (1, x10), (9, 0)] [] m18 Q
          refine zw_5 zr_76_66 rfl ?_
          refine zw_7 zr_76_67 rfl ?_
          refine zw_46r (s := 62) zr_76_68 rfl rfl rfl rfl ?_
          refine zw_7 zr_76_71 rfl ?_
          refine zw_46r (s := 1) zr_76_72 rfl rfl rfl rfl ?_
          refine zw_46r (s := 7) zr_76_75 rfl rfl rfl rfl ?_
          refine zw_4 zr_76_78 rfl ?_
          refine zw_48 (len := 60) zr_76_80 rfl rfl (by omega) (by omega) ?_
          intro x19 ex19
          have bx19 := ib_7 hIm18 (k := (i3).toNat) (by omega)
          rw [← ex19] at bx19
          clear ex19
          refine zw_48 (len := 10) zr_76_81 rfl rfl (by omega) (by omega) ?_
          intro x20 ex20
          clear ex20
          refine zw_push zr_76_82 ?_
          refine zw_41_4 zr_76_83 ?_ ?_
          · intro h21
            refine zw_push zr_76_91 ?_
            refine zw_31h zr_76_92 ?_
            intro x22 hx22a hx22b
            refine zw_13 (L' := [(2, 60), (1, r1), (9, 0), (1, x22), (9, 0), (0, i3), (1, x10), (9, 0)]) zr_76_93 (Nat.le_of_ble_eq_true rfl) rfl ?_
            refine zw_15 (c := 1) (L' := [(2, 60), (1, r1), (9, 0), (1, x22), (9, 0), (0, (i3 + 1)), (1, x10), (9, 0)]) zr_76_94 rfl (by decide) (by omega) rfl ?_
            refine zw_42 zr_76_97 ?_
            exact zw_less (L := [(2, 60), (1, r1), (9, 0), (1, x22), (9, 0), (0, (i3 + 1)), (9, 0), (9, 0)]) ⟨Or.inr rfl, Or.inr rfl, Or.inl rfl, Or.inr rfl, Or.inl rfl, Or.inr rfl, Or.inl rfl, Or.inl rfl, trivial⟩ (ihlp13_5 (x22) ((i3 + 1)) m18 hIm18 hFm18   (by omega) (by omega) (by omega) (by omega) (by omega))
          · intro h23
            refine zw_6 zr_76_86 rfl ?_
            refine zw_42 zr_76_88 ?_
            refine zw_31h zr_76_92 ?_
            intro x24 hx24a hx24b
            refine zw_13 (L' := [(2, 60), (1, r1), (9, 0), (1, x24), (9, 0), (0, i3), (1, x10), (9, 0)]) zr_76_93 (Nat.le_of_ble_eq_true rfl) rfl ?_
            refine zw_15 (c := 1) (L' := [(2, 60), (1, r1), (9, 0), (1, x24), (9, 0), (0, (i3 + 1)), (1, x10), (9, 0)]) zr_76_94 rfl (by decide) (by omega) rfl ?_
            refine zw_42 zr_76_97 ?_
            exact zw_less (L := [(2, 60), (1, r1), (9, 0), (1, x24), (9, 0), (0, (i3 + 1)), (9, 0), (9, 0)]) ⟨Or.inr rfl, Or.inr rfl, Or.inl rfl, Or.inr rfl, Or.inl rfl, Or.inr rfl, Or.inl rfl, Or.inl rfl, trivial⟩ (ihlp13_5 (x24) ((i3 + 1)) m18 hIm18 hFm18   (by omega) (by omega) (by omega) (by omega) (by omega))
  exact lp13_5 _ (0) (0) m0 hI0 hF0   (by omega) (by omega) (by omega) (by omega) (Nat.lt_succ_self _)

abbrev W_122 : List (Nat × Nat) := [(61, 1000), (62, 1000)]
set_option maxHeartbeats 8000000 in
theorem th_122 {E : zE} {d : Nat} {m0 : zM} (hd : 4 ≤ d) (hI0 : zInv m0) : zC E d 122 [(2, 0)] m0 (fun v m' => ∃ r : Int, v = (1, r) ∧ (-9223372036854775808) ≤ r ∧ r ≤ 9223372036854775807 ∧ zInv m' ∧ zFr W_122 m0 m') := by
  have hF0 : zFr W_122 m0 m0 := zFr.rfl
  generalize hQ : (fun (v : zV) (m' : zM) => ∃ r : Int, v = (1, r) ∧ (-9223372036854775808) ≤ r ∧ r ≤ 9223372036854775807 ∧ zInv m' ∧ zFr W_122 m0 m') = Q
  show zW E d 122 0 [(2, 0)] [] m0 Q
  refine zw_7 zr_122_0 rfl ?_
  refine zw_46r (s := 60) zr_122_1 rfl rfl rfl rfl ?_
  refine zw_C zr_122_4 (Or.inl rfl) zm_76 rfl rfl ⟨Nat.le_of_ble_eq_true rfl, Nat.le_of_ble_eq_true rfl, Nat.le_of_ble_eq_true rfl, rfl, by decide⟩ (by omega) (th_76 (d := d - 1) (by omega) hI0  ) ?_
  rintro _ m1 ⟨r2, rfl, hr2a, hr2b, hIm1, gm1⟩
  have hFm1 : zFr W_122 m0 m1 := hF0.trans gm1 rfl
  show zW E (d) 122 7 [(2, 0)] [(1, r2)] m1 Q
  refine zw_R zr_122_7 (by decide) zm_122 (v := (1, r2)) rfl ?_
  rw [← hQ]; exact ⟨_, rfl, by omega, by omega, hIm1, hFm1⟩

abbrev W_192 : List (Nat × Nat) := [(81, 1000)]
set_option maxHeartbeats 8000000 in
theorem th_192 {E : zE} {d : Nat} {m0 : zM} (hd : 4 ≤ d) (hI0 : zInv m0) : zC E d 192 [(2, 69)] m0 (fun v m' => ∃ r : Int, v = (1, r) ∧ (-9223372036854775808) ≤ r ∧ r ≤ 9223372036854775807 ∧ zInv m' ∧ zFr W_192 m0 m') := by
  have hF0 : zFr W_192 m0 m0 := zFr.rfl
  generalize hQ : (fun (v : zV) (m' : zM) => ∃ r : Int, v = (1, r) ∧ (-9223372036854775808) ≤ r ∧ r ≤ 9223372036854775807 ∧ zInv m' ∧ zFr W_192 m0 m') = Q
  show zW E d 192 0 [(2, 69), (9, 0), (9, 0), (9, 0)] [] m0 Q
  refine zw_push zr_192_0 ?_
  refine zw_13 (L' := [(2, 69), (1, 0), (9, 0), (9, 0)]) zr_192_1 (Nat.le_of_ble_eq_true rfl) rfl ?_
  refine zw_push zr_192_2 ?_
  refine zw_9 (L' := [(2, 69), (1, 0), (9, 0), (0, 0)]) zr_192_3 (Nat.le_of_ble_eq_true rfl) rfl ?_
  have lp4_4 : ∀ (nlp4_4 : Nat) (i1 i2 : Int) (m3 : zM), zInv m3 → zFr W_192 m0 m3 → (-9223372036854775808) ≤ i1 → i1 ≤ 9223372036854775807 → 0 ≤ i2 → i2 ≤ 60 → (60 - i2).toNat < nlp4_4 → zW E (d) 192 4 [(2, 69), (1, i1), (9, 0), (0, i2)] [] m3 Q := by
    intro nlp4_4
    induction nlp4_4 with
    | zero =>
      intros
      exact absurd (by assumption : _ < 0) (Nat.not_lt_zero _)
    | succ nlp4_4 ihlp4_4 =>
      intro i1 i2 m3 hIm3 hFm3 li1 ui1 li2 ui2 hmlp4_4
      refine zw_3 zr_192_4 rfl ?_
      refine zw_7 zr_192_5 rfl ?_
      refine zw_C zr_192_6 (Or.inl rfl) zm_142 rfl rfl ⟨Nat.le_of_ble_eq_true rfl, Nat.le_of_ble_eq_true rfl, Nat.le_of_ble_eq_true rfl, rfl, by decide⟩ (by omega) (P := (fun v m' => zW E (d) 192 9 [(2, 69), (1, i1), (9, 0), (0, i2)] (if v.1 = 9 then [(0, i2)] else v :: [(0, i2)]) m' Q)) ?_ (fun _ _ h => h)
      generalize hQ1 : (fun v m' => zW E (d) 192 9 [(2, 69), (1, i1), (9, 0), (0, i2)] (if v.1 = 9 then [(0, i2)] else v :: [(0, i2)]) m' Q) = Q1
      show zW E (d - 1) 142 0 [(2, 69)] [] m3 Q1
      refine zw_7 zr_142_0 rfl ?_
      refine zw_46r (s := 70) zr_142_1 rfl rfl rfl rfl ?_
      refine zw_push zr_142_4 ?_
      refine zw_48 (len := 826) zr_142_7 rfl rfl (by omega) (by omega) ?_
      intro x6 ex6
      have bx6 := ib_70_meetings hIm3 (k := (823).toNat) (by omega)
      rw [← ex6] at bx6
      clear ex6
      refine zw_R zr_142_8 (by decide) zm_142 (v := (0, x6)) rfl ?_
      rw [← hQ1]
      show zW E (d) 192 9 [(2, 69), (1, i1), (9, 0), (0, i2)] [(0, x6), (0, i2)] m3 Q
      refine zw_41_3 zr_192_9 ?_ ?_
      · intro h7
        refine zw_5 zr_192_63 rfl ?_
        refine zw_R zr_192_64 (by decide) zm_192 (v := (1, i1)) rfl ?_
        rw [← hQ]; exact ⟨_, rfl, by omega, by omega, hIm3, hFm3⟩
      · intro h8
        refine zw_7 zr_192_12 rfl ?_
        refine zw_3 zr_192_13 rfl ?_
        refine zw_C zr_192_14 (Or.inl rfl) zm_181 rfl rfl ⟨Nat.le_of_ble_eq_true rfl, Nat.le_of_ble_eq_true rfl, Nat.le_of_ble_eq_true rfl, rfl, by decide⟩ (by omega) (P := (fun v m' => zW E (d) 192 17 [(2, 69), (1, i1), (9, 0), (0, i2)] (if v.1 = 9 then [] else v :: []) m' Q)) ?_ (fun _ _ h => h)
        generalize hQ1 : (fun v m' => zW E (d) 192 17 [(2, 69), (1, i1), (9, 0), (0, i2)] (if v.1 = 9 then [] else v :: []) m' Q) = Q1
        show zW E (d - 1) 181 0 [(2, 69), (0, i2)] [] m3 Q1
        refine zw_7 zr_181_0 rfl ?_
        refine zw_3 zr_181_1 rfl ?_
        refine zw_push zr_181_2 ?_
        refine zw_C zr_181_3 (Or.inl rfl) zm_144 rfl rfl ⟨Nat.le_of_ble_eq_true rfl, Nat.le_of_ble_eq_true rfl, Nat.le_of_ble_eq_true rfl, rfl, by decide⟩ (by omega) (P := (fun v m' => zW E (d - 1) 181 6 [(2, 69), (0, i2)] (if v.1 = 9 then [] else v :: []) m' Q1)) ?_ (fun _ _ h => h)
        generalize hQ2 : (fun v m' => zW E (d - 1) 181 6 [(2, 69), (0, i2)] (if v.1 = 9 then [] else v :: []) m' Q1) = Q2
        show zW E (d - 1 - 1) 144 0 [(2, 69), (0, i2), (0, 4)] [] m3 Q2
        refine zw_7 zr_144_0 rfl ?_
        refine zw_46r (s := 70) zr_144_1 rfl rfl rfl rfl ?_
        refine zw_push zr_144_4 ?_
        refine zw_push zr_144_6 ?_
        refine zw_3 zr_144_8 rfl ?_
        refine zw_18 zr_144_9 (by omega) ?_
        refine zw_16 zr_144_10 (by omega) ?_
        refine zw_3 zr_144_11 rfl ?_
        refine zw_16 zr_144_12 (by omega) ?_
        refine zw_48 (len := 826) zr_144_13 rfl rfl (by omega) (by omega) ?_
        intro x9 ex9
        have bx9 := ib_70_m4 hIm3 (k := (((90 + (6 * i2)) + 4)).toNat) (by omega)
        rw [← ex9] at bx9
        clear ex9
        refine zw_R zr_144_14 (by decide) zm_144 (v := (0, x9)) rfl ?_
        rw [← hQ2]
        show zW E (d - 1) 181 6 [(2, 69), (0, i2)] [(0, x9)] m3 Q1
        refine zw_40_4 zr_181_6 ?_ ?_
        · intro h10
          refine zw_push zr_181_22 ?_
          refine zw_R zr_181_23 (by decide) zm_181 (v := (0, 0)) (zRetB (by omega)) ?_
          rw [← hQ1]
          show zW E (d) 192 17 [(2, 69), (1, i1), (9, 0), (0, i2)] [(0, 0)] m3 Q
          refine zw_40_1 zr_192_17 ?_ ?_
          · intro h11
            refine zw_15 (c := 1) (L' := [(2, 69), (1, i1), (9, 0), (0, (i2 + 1))]) zr_192_57 rfl (by decide) (by omega) rfl ?_
            refine zw_42 zr_192_60 ?_
            exact zw_less (L := [(2, 69), (1, i1), (9, 0), (0, (i2 + 1))]) ⟨Or.inr rfl, Or.inr rfl, Or.inl rfl, Or.inr rfl, trivial⟩ (ihlp4_4 (i1) ((i2 + 1)) m3 hIm3 hFm3   (by omega) (by omega) (by omega) (by omega) (by omega))
          · intro h12; omega
        · intro h13
          refine zw_7 zr_181_9 rfl ?_
          refine zw_3 zr_181_10 rfl ?_
          refine zw_push zr_181_11 ?_
          refine zw_C zr_181_12 (Or.inl rfl) zm_144 rfl rfl ⟨Nat.le_of_ble_eq_true rfl, Nat.le_of_ble_eq_true rfl, Nat.le_of_ble_eq_true rfl, rfl, by decide⟩ (by omega) (P := (fun v m' => zW E (d - 1) 181 15 [(2, 69), (0, i2)] (if v.1 = 9 then [] else v :: []) m' Q1)) ?_ (fun _ _ h => h)
          generalize hQ2 : (fun v m' => zW E (d - 1) 181 15 [(2, 69), (0, i2)] (if v.1 = 9 then [] else v :: []) m' Q1) = Q2
          show zW E (d - 1 - 1) 144 0 [(2, 69), (0, i2), (0, 5)] [] m3 Q2
          refine zw_7 zr_144_0 rfl ?_
          refine zw_46r (s := 70) zr_144_1 rfl rfl rfl rfl ?_
          refine zw_push zr_144_4 ?_
          refine zw_push zr_144_6 ?_
          refine zw_3 zr_144_8 rfl ?_
          refine zw_18 zr_144_9 (by omega) ?_
          refine zw_16 zr_144_10 (by omega) ?_
          refine zw_3 zr_144_11 rfl ?_
          refine zw_16 zr_144_12 (by omega) ?_
          refine zw_48 (len := 826) zr_144_13 rfl rfl (by omega) (by omega) ?_
          intro x14 ex14
          have bx14 := ib_70_m5 hIm3 (k := (((90 + (6 * i2)) + 5)).toNat) (by omega)
          rw [← ex14] at bx14
          clear ex14
          refine zw_R zr_144_14 (by decide) zm_144 (v := (0, x14)) rfl ?_
          rw [← hQ2]
          show zW E (d - 1) 181 15 [(2, 69), (0, i2)] [(0, x14)] m3 Q1
          refine zw_40_4 zr_181_15 ?_ ?_
          · intro h15
            refine zw_push zr_181_22 ?_
            refine zw_R zr_181_23 (by decide) zm_181 (v := (0, 0)) (zRetB (by omega)) ?_
            rw [← hQ1]
            show zW E (d) 192 17 [(2, 69), (1, i1), (9, 0), (0, i2)] [(0, 0)] m3 Q
            refine zw_40_1 zr_192_17 ?_ ?_
            · intro h16
              refine zw_15 (c := 1) (L' := [(2, 69), (1, i1), (9, 0), (0, (i2 + 1))]) zr_192_57 rfl (by decide) (by omega) rfl ?_
              refine zw_42 zr_192_60 ?_
              exact zw_less (L := [(2, 69), (1, i1), (9, 0), (0, (i2 + 1))]) ⟨Or.inr rfl, Or.inr rfl, Or.inl rfl, Or.inr rfl, trivial⟩ (ihlp4_4 (i1) ((i2 + 1)) m3 hIm3 hFm3   (by omega) (by omega) (by omega) (by omega) (by omega))
            · intro h17; omega
          · intro h18
            refine zw_push zr_181_18 ?_
            refine zw_42 zr_181_19 ?_
            refine zw_R zr_181_23 (by decide) zm_181 (v := (0, 1)) (zRetB (by omega)) ?_
            rw [← hQ1]
            show zW E (d) 192 17 [(2, 69), (1, i1), (9, 0), (0, i2)] [(0, 1)] m3 Q
            refine zw_40_1 zr_192_17 ?_ ?_
            · intro h19; omega
            · intro h20
              refine zw_7 zr_192_20 rfl ?_
              refine zw_7 zr_192_21 rfl ?_
              refine zw_3 zr_192_22 rfl ?_
              refine zw_push zr_192_23 ?_
              refine zw_C zr_192_24 (Or.inl rfl) zm_144 rfl rfl ⟨Nat.le_of_ble_eq_true rfl, Nat.le_of_ble_eq_true rfl, Nat.le_of_ble_eq_true rfl, rfl, by decide⟩ (by omega) (P := (fun v m' => zW E (d) 192 27 [(2, 69), (1, i1), (9, 0), (0, i2)] (if v.1 = 9 then [(2, 69)] else v :: [(2, 69)]) m' Q)) ?_ (fun _ _ h => h)
              generalize hQ1 : (fun v m' => zW E (d) 192 27 [(2, 69), (1, i1), (9, 0), (0, i2)] (if v.1 = 9 then [(2, 69)] else v :: [(2, 69)]) m' Q) = Q1
              show zW E (d - 1) 144 0 [(2, 69), (0, i2), (0, 1)] [] m3 Q1
              refine zw_7 zr_144_0 rfl ?_
              refine zw_46r (s := 70) zr_144_1 rfl rfl rfl rfl ?_
              refine zw_push zr_144_4 ?_
              refine zw_push zr_144_6 ?_
              refine zw_3 zr_144_8 rfl ?_
              refine zw_18 zr_144_9 (by omega) ?_
              refine zw_16 zr_144_10 (by omega) ?_
              refine zw_3 zr_144_11 rfl ?_
              refine zw_16 zr_144_12 (by omega) ?_
              refine zw_48 (len := 826) zr_144_13 rfl rfl (by omega) (by omega) ?_
              intro x21 ex21
              have bx21 := ib_70_m1 hIm3 (k := (((90 + (6 * i2)) + 1)).toNat) (by omega)
              rw [← ex21] at bx21
              clear ex21
              refine zw_R zr_144_14 (by decide) zm_144 (v := (0, x21)) rfl ?_
              rw [← hQ1]
              show zW E (d) 192 27 [(2, 69), (1, i1), (9, 0), (0, i2)] [(0, x21), (2, 69)] m3 Q
              refine zw_3 zr_192_27 rfl ?_
              refine zw_C zr_192_28 (Or.inl rfl) zm_188 rfl rfl ⟨Nat.le_of_ble_eq_true rfl, Nat.le_of_ble_eq_true rfl, Nat.le_of_ble_eq_true rfl, rfl, by decide⟩ (by omega) (th_188 (d := d - 1) (by omega) hIm3 (a0 := x21) (a1 := i2) (by omega) (by omega)) ?_
              rintro _ m22 ⟨rfl, hIm22, gm22⟩
              have hFm22 : zFr W_192 m0 m22 := hFm3.trans gm22 rfl
              show zW E (d) 192 31 [(2, 69), (1, i1), (9, 0), (0, i2)] [] m22 Q
              refine zw_5 zr_192_31 rfl ?_
              refine zw_7 zr_192_32 rfl ?_
              refine zw_46r (s := 81) zr_192_33 rfl rfl rfl rfl ?_
              refine zw_7 zr_192_36 rfl ?_
              refine zw_3 zr_192_37 rfl ?_
              refine zw_push zr_192_38 ?_
              refine zw_C zr_192_39 (Or.inl rfl) zm_144 rfl rfl ⟨Nat.le_of_ble_eq_true rfl, Nat.le_of_ble_eq_true rfl, Nat.le_of_ble_eq_true rfl, rfl, by decide⟩ (by omega) (P := (fun v m' => zW E (d) 192 42 [(2, 69), (1, i1), (9, 0), (0, i2)] (if v.1 = 9 then [(2, 81), (1, i1)] else v :: [(2, 81), (1, i1)]) m' Q)) ?_ (fun _ _ h => h)
              generalize hQ1 : (fun v m' => zW E (d) 192 42 [(2, 69), (1, i1), (9, 0), (0, i2)] (if v.1 = 9 then [(2, 81), (1, i1)] else v :: [(2, 81), (1, i1)]) m' Q) = Q1
              show zW E (d - 1) 144 0 [(2, 69), (0, i2), (0, 2)] [] m22 Q1
              refine zw_7 zr_144_0 rfl ?_
              refine zw_46r (s := 70) zr_144_1 rfl rfl rfl rfl ?_
              refine zw_push zr_144_4 ?_
              refine zw_push zr_144_6 ?_
              refine zw_3 zr_144_8 rfl ?_
              refine zw_18 zr_144_9 (by omega) ?_
              refine zw_16 zr_144_10 (by omega) ?_
              refine zw_3 zr_144_11 rfl ?_
              refine zw_16 zr_144_12 (by omega) ?_
              refine zw_48 (len := 826) zr_144_13 rfl rfl (by omega) (by omega) ?_
              intro x23 ex23
              have bx23 := ib_70_m2 hIm22 (k := (((90 + (6 * i2)) + 2)).toNat) (by omega)
              rw [← ex23] at bx23
              clear ex23
              refine zw_R zr_144_14 (by decide) zm_144 (v := (0, x23)) rfl ?_
              rw [← hQ1]
              show zW E (d) 192 42 [(2, 69), (1, i1), (9, 0), (0, i2)] [(0, x23), (2, 81), (1, i1)] m22 Q
              refine zw_48 (len := 10) zr_192_42 rfl rfl (by omega) (by omega) ?_
              intro x24 ex24
              clear ex24
              refine zw_push zr_192_43 ?_
              refine zw_41_0 zr_192_45 ?_ ?_
              · intro h25
                refine zw_push zr_192_54 ?_
                refine zw_31h zr_192_55 ?_
                intro x26 hx26a hx26b
                refine zw_13 (L' := [(2, 69), (1, x26), (9, 0), (0, i2)]) zr_192_56 (Nat.le_of_ble_eq_true rfl) rfl ?_
                refine zw_15 (c := 1) (L' := [(2, 69), (1, x26), (9, 0), (0, (i2 + 1))]) zr_192_57 rfl (by decide) (by omega) rfl ?_
                refine zw_42 zr_192_60 ?_
                exact zw_less (L := [(2, 69), (1, x26), (9, 0), (0, (i2 + 1))]) ⟨Or.inr rfl, Or.inr rfl, Or.inl rfl, Or.inr rfl, trivial⟩ (ihlp4_4 (x26) ((i2 + 1)) m22 hIm22 hFm22   (by omega) (by omega) (by omega) (by omega) (by omega))
              · intro h27
                refine zw_push zr_192_48 ?_
                refine zw_3 zr_192_49 rfl ?_
                refine zw_33h zr_192_50 ?_
                intro x28 hx28a hx28b
                refine zw_42 zr_192_51 ?_
                refine zw_31h zr_192_55 ?_
                intro x29 hx29a hx29b
                refine zw_13 (L' := [(2, 69), (1, x29), (9, 0), (0, i2)]) zr_192_56 (Nat.le_of_ble_eq_true rfl) rfl ?_
                refine zw_15 (c := 1) (L' := [(2, 69), (1, x29), (9, 0), (0, (i2 + 1))]) zr_192_57 rfl (by decide) (by omega) rfl ?_
                refine zw_42 zr_192_60 ?_
                exact zw_less (L := [(2, 69), (1, x29), (9, 0), (0, (i2 + 1))]) ⟨Or.inr rfl, Or.inr rfl, Or.inl rfl, Or.inr rfl, trivial⟩ (ihlp4_4 (x29) ((i2 + 1)) m22 hIm22 hFm22   (by omega) (by omega) (by omega) (by omega) (by omega))
  exact lp4_4 _ (0) (0) m0 hI0 hF0   (by omega) (by omega) (by omega) (by omega) (Nat.lt_succ_self _)

abbrev W_4_65 : List (Nat × Nat) := [(65, 1000)]
set_option maxHeartbeats 8000000 in
theorem th_4_65 {E : zE} {d : Nat} {m0 : zM} (hd : 1 ≤ d) (hI0 : zInv m0) {a0 : Int} (ha0 : 0 ≤ a0 ∧ a0 ≤ 0) : zC E d 4 [(2, 65), (0, a0)] m0 (fun v m' => v = (9, 0) ∧ zInv m' ∧ zFr W_4_65 m0 m') := by
  have hF0 : zFr W_4_65 m0 m0 := zFr.rfl
  generalize hQ : (fun (v : zV) (m' : zM) => v = (9, 0) ∧ zInv m' ∧ zFr W_4_65 m0 m') = Q
  show zW E d 4 0 [(2, 65), (0, a0), (9, 0), (9, 0)] [] m0 Q
  refine zw_push zr_4_0 ?_
  refine zw_9 (L' := [(2, 65), (0, a0), (0, 0), (9, 0)]) zr_4_1 (Nat.le_of_ble_eq_true rfl) rfl ?_
  refine zw_7 zr_4_2 rfl ?_
  refine zw_101 (len := 100) zr_4_3 rfl rfl (by decide) ?_
  refine zw_9 (L' := [(2, 65), (0, a0), (0, 0), (0, 100)]) zr_4_4 (Nat.le_of_ble_eq_true rfl) rfl ?_
  have lp5_3 : ∀ (nlp5_3 : Nat) (i1 : Int) (m2 : zM), zInv m2 → zFr W_4_65 m0 m2 → 0 ≤ i1 → i1 ≤ 100 → (100 - i1).toNat < nlp5_3 → zW E (d) 4 5 [(2, 65), (0, a0), (0, i1), (0, 100)] [] m2 Q := by
    intro nlp5_3
    induction nlp5_3 with
    | zero =>
      intros
      exact absurd (by assumption : _ < 0) (Nat.not_lt_zero _)
    | succ nlp5_3 ihlp5_3 =>
      intro i1 m2 hIm2 hFm2 li1 ui1 hmlp5_3
      refine zw_3 zr_4_5 rfl ?_
      refine zw_3 zr_4_6 rfl ?_
      refine zw_41_3 zr_4_7 ?_ ?_
      · intro h5
        refine zw_R zr_4_20 (by decide) zm_4 (v := (9, 0)) rfl ?_
        rw [← hQ]; exact ⟨rfl, hIm2, hFm2⟩
      · intro h6
        refine zw_7 zr_4_10 rfl ?_
        refine zw_3 zr_4_11 rfl ?_
        refine zw_3 zr_4_12 rfl ?_
        refine zw_49 (len := 100) zr_4_13 rfl rfl (by omega) (by omega) ?_
        intro m7 em7
        have hIm7 : zInv m7 := by rw [em7]; exact hIm2.any rfl (by decide) (by decide)
        have hFm7 : zFr W_4_65 m0 m7 := by rw [em7]; exact hFm2.any rfl
        clear em7
        refine zw_15 (c := 1) (L' := [(2, 65), (0, a0), (0, (i1 + 1)), (0, 100)]) zr_4_14 rfl (by decide) (by omega) rfl ?_
        refine zw_42 zr_4_17 ?_
        exact zw_less (L := [(2, 65), (0, a0), (0, (i1 + 1)), (0, 100)]) ⟨Or.inr rfl, Or.inr rfl, Or.inr rfl, Or.inr rfl, trivial⟩ (ihlp5_3 ((i1 + 1)) m7 hIm7 hFm7   (by omega) (by omega) (by omega))
  exact lp5_3 _ (0) m0 hI0 hF0   (by omega) (by omega) (Nat.lt_succ_self _)

abbrev W_90 : List (Nat × Nat) := [(65, 1000)]
set_option maxHeartbeats 8000000 in
theorem th_90 {E : zE} {d : Nat} {m0 : zM} (hd : 2 ≤ d) (hI0 : zInv m0) : zC E d 90 [(2, 63)] m0 (fun v m' => v = (9, 0) ∧ zInv m' ∧ zFr W_90 m0 m') := by
  have hF0 : zFr W_90 m0 m0 := zFr.rfl
  generalize hQ : (fun (v : zV) (m' : zM) => v = (9, 0) ∧ zInv m' ∧ zFr W_90 m0 m') = Q
  show zW E d 90 0 [(2, 63), (9, 0), (9, 0), (9, 0)] [] m0 Q
  refine zw_7 zr_90_0 rfl ?_
  refine zw_46r (s := 65) zr_90_1 rfl rfl rfl rfl ?_
  refine zw_push zr_90_4 ?_
  refine zw_C zr_90_5 (Or.inr rfl) zm_4 rfl rfl ⟨Nat.le_of_ble_eq_true rfl, Nat.le_of_ble_eq_true rfl, Nat.le_of_ble_eq_true rfl, rfl, by decide⟩ (by omega) (th_4_65 (d := d - 1) (by omega) hI0 (a0 := 0) (by omega)) ?_
  rintro _ m1 ⟨rfl, hIm1, gm1⟩
  have hFm1 : zFr W_90 m0 m1 := hF0.trans gm1 rfl
  show zW E (d) 90 8 [(2, 63), (9, 0), (9, 0), (9, 0)] [] m1 Q
  refine zw_push zr_90_8 ?_
  refine zw_9 (L' := [(2, 63), (0, 0), (9, 0), (9, 0)]) zr_90_9 (Nat.le_of_ble_eq_true rfl) rfl ?_
  have lp10_4 : ∀ (nlp10_4 : Nat) (i2 : Int) (m3 : zM), zInv m3 → zFr W_90 m0 m3 → 0 ≤ i2 → i2 ≤ 60 → (60 - i2).toNat < nlp10_4 → zW E (d) 90 10 [(2, 63), (0, i2), (9, 0), (9, 0)] [] m3 Q := by
    intro nlp10_4
    induction nlp10_4 with
    | zero =>
      intros
      exact absurd (by assumption : _ < 0) (Nat.not_lt_zero _)
    | succ nlp10_4 ihlp10_4 =>
      intro i2 m3 hIm3 hFm3 li2 ui2 hmlp10_4
      refine zw_3 zr_90_10 rfl ?_
      refine zw_7 zr_90_11 rfl ?_
      refine zw_46r (s := 1) zr_90_12 rfl rfl rfl rfl ?_
      obtain ⟨f6, ef6⟩ : ∃ v, m3 1 1 = v := ⟨_, rfl⟩
      have bf6 := ib_1_1 hIm3
      rw [ef6] at bf6
      refine zw_46i zr_90_15 ef6 rfl rfl rfl ?_
      refine zw_41_3 zr_90_18 ?_ ?_
      · intro h7
        refine zw_R zr_90_108 (by decide) zm_90 (v := (9, 0)) rfl ?_
        rw [← hQ]; exact ⟨rfl, hIm3, hFm3⟩
      · intro h8
        refine zw_7 zr_90_21 rfl ?_
        refine zw_46r (s := 1) zr_90_22 rfl rfl rfl rfl ?_
        refine zw_46r (s := 6) zr_90_25 rfl rfl rfl rfl ?_
        refine zw_3 zr_90_28 rfl ?_
        refine zw_48 (len := 60) zr_90_29 rfl rfl (by omega) (by omega) ?_
        intro x9 ex9
        have bx9 := ib_6 hIm3 (k := (i2).toNat) (by omega)
        rw [← ex9] at bx9
        clear ex9
        refine zw_9 (L' := [(2, 63), (0, i2), (0, x9), (9, 0)]) zr_90_30 (Nat.le_of_ble_eq_true rfl) rfl ?_
        refine zw_7 zr_90_31 rfl ?_
        refine zw_46r (s := 1) zr_90_32 rfl rfl rfl rfl ?_
        refine zw_46r (s := 7) zr_90_35 rfl rfl rfl rfl ?_
        refine zw_3 zr_90_38 rfl ?_
        refine zw_48 (len := 60) zr_90_39 rfl rfl (by omega) (by omega) ?_
        intro x10 ex10
        have bx10 := ib_7 hIm3 (k := (i2).toNat) (by omega)
        rw [← ex10] at bx10
        clear ex10
        refine zw_9 (L' := [(2, 63), (0, i2), (0, x9), (0, x10)]) zr_90_40 (Nat.le_of_ble_eq_true rfl) rfl ?_
        refine zw_7 zr_90_41 rfl ?_
        refine zw_46r (s := 1) zr_90_42 rfl rfl rfl rfl ?_
        refine zw_3 zr_90_45 rfl ?_
        refine zw_C zr_90_46 (Or.inl rfl) zm_18 rfl rfl ⟨Nat.le_of_ble_eq_true rfl, Nat.le_of_ble_eq_true rfl, Nat.le_of_ble_eq_true rfl, rfl, by decide⟩ (by omega) (P := (fun v m' => zW E (d) 90 49 [(2, 63), (0, i2), (0, x9), (0, x10)] (if v.1 = 9 then [] else v :: []) m' Q)) ?_ (fun _ _ h => h)
        generalize hQ1 : (fun v m' => zW E (d) 90 49 [(2, 63), (0, i2), (0, x9), (0, x10)] (if v.1 = 9 then [] else v :: []) m' Q) = Q1
        show zW E (d - 1) 18 0 [(2, 1), (0, i2)] [] m3 Q1
        refine zw_7 zr_18_0 rfl ?_
        obtain ⟨f11, ef11⟩ : ∃ v, m3 1 2 = v := ⟨_, rfl⟩
        refine zw_46l zr_18_1 ef11 rfl rfl rfl ?_
        refine zw_3 zr_18_4 rfl ?_
        refine zw_34h zr_18_5 ?_
        intro x12 hx12a hx12b
        refine zw_push zr_18_6 ?_
        refine zw_30h zr_18_7 ?_
        intro x13 hx13a hx13b
        refine zw_push zr_18_8 ?_
        refine zw_39_1 zr_18_9 zr_18_10 ?_ ?_
        · intro h14
          refine zw_push zr_18_17 ?_
          refine zw_R zr_18_18 (by decide) zm_18 (v := (0, 0)) (zRetB (by omega)) ?_
          rw [← hQ1]
          show zW E (d) 90 49 [(2, 63), (0, i2), (0, x9), (0, x10)] [(0, 0)] m3 Q
          refine zw_40_4 zr_90_49 ?_ ?_
          · intro h15; omega
          · intro h16
            refine zw_7 zr_90_52 rfl ?_
            refine zw_46r (s := 1) zr_90_53 rfl rfl rfl rfl ?_
            refine zw_46r (s := 8) zr_90_56 rfl rfl rfl rfl ?_
            refine zw_3 zr_90_59 rfl ?_
            refine zw_48 (len := 60) zr_90_60 rfl rfl (by omega) (by omega) ?_
            intro x17 ex17
            have bx17 := ib_8 hIm3 (k := (i2).toNat) (by omega)
            rw [← ex17] at bx17
            clear ex17
            refine zw_push zr_90_61 ?_
            refine zw_41_1 zr_90_62 ?_ ?_
            · intro h18
              refine zw_15 (c := 1) (L' := [(2, 63), (0, (i2 + 1)), (0, x9), (0, x10)]) zr_90_102 rfl (by decide) (by omega) rfl ?_
              refine zw_42 zr_90_105 ?_
              exact zw_less (L := [(2, 63), (0, (i2 + 1)), (9, 0), (9, 0)]) ⟨Or.inr rfl, Or.inr rfl, Or.inl rfl, Or.inl rfl, trivial⟩ (ihlp10_4 ((i2 + 1)) m3 hIm3 hFm3   (by omega) (by omega) (by omega))
            · intro h19
              refine zw_7 zr_90_65 rfl ?_
              refine zw_46r (s := 65) zr_90_66 rfl rfl rfl rfl ?_
              refine zw_7 zr_90_69 rfl ?_
              refine zw_46r (s := 1) zr_90_70 rfl rfl rfl rfl ?_
              refine zw_46r (s := 8) zr_90_73 rfl rfl rfl rfl ?_
              refine zw_3 zr_90_76 rfl ?_
              refine zw_48 (len := 60) zr_90_77 rfl rfl (by omega) (by omega) ?_
              intro x20 ex20
              have bx20 := ib_8 hIm3 (k := (i2).toNat) (by omega)
              rw [← ex20] at bx20
              clear ex20
              refine zw_push zr_90_78 ?_
              refine zw_41_4 zr_90_79 ?_ ?_
              · intro h21
                refine zw_3 zr_90_91 rfl ?_
                refine zw_push zr_90_92 ?_
                refine zw_18 zr_90_94 (by omega) ?_
                refine zw_3 zr_90_95 rfl ?_
                refine zw_16 zr_90_96 (by omega) ?_
                refine zw_45 zr_90_97 ⟨rfl, rfl⟩ ?_
                refine zw_48 (len := 100) zr_90_98 rfl rfl (by omega) (by omega) ?_
                intro x22 ex22
                clear ex22
                refine zw_push zr_90_99 ?_
                refine zw_16h zr_90_100 ?_
                intro x23 hx23a hx23b
                refine zw_49 (len := 100) zr_90_101 rfl rfl (by omega) (by omega) ?_
                intro m24 em24
                have hIm24 : zInv m24 := by rw [em24]; exact hIm3.any rfl (by decide) (by decide)
                have hFm24 : zFr W_90 m0 m24 := by rw [em24]; exact hFm3.any rfl
                have km24_1_1 : m24 1 1 = f6 := by rw [em24, zUp_ne (by omega)]; exact ef6
                have km24_1_2 : m24 1 2 = f11 := by rw [em24, zUp_ne (by omega)]; exact ef11
                clear em24
                refine zw_15 (c := 1) (L' := [(2, 63), (0, (i2 + 1)), (0, x9), (0, x10)]) zr_90_102 rfl (by decide) (by omega) rfl ?_
                refine zw_42 zr_90_105 ?_
                exact zw_less (L := [(2, 63), (0, (i2 + 1)), (9, 0), (9, 0)]) ⟨Or.inr rfl, Or.inr rfl, Or.inl rfl, Or.inl rfl, trivial⟩ (ihlp10_4 ((i2 + 1)) m24 hIm24 hFm24   (by omega) (by omega) (by omega))
              · intro h25
                refine zw_3 zr_90_82 rfl ?_
                refine zw_push zr_90_83 ?_
                refine zw_18 zr_90_85 (by omega) ?_
                refine zw_3 zr_90_86 rfl ?_
                refine zw_16 zr_90_87 (by omega) ?_
                refine zw_42 zr_90_88 ?_
                refine zw_45 zr_90_97 ⟨rfl, rfl⟩ ?_
                refine zw_48 (len := 100) zr_90_98 rfl rfl (by omega) (by omega) ?_
                intro x26 ex26
                clear ex26
                refine zw_push zr_90_99 ?_
                refine zw_16h zr_90_100 ?_
                intro x27 hx27a hx27b
                refine zw_49 (len := 100) zr_90_101 rfl rfl (by omega) (by omega) ?_
                intro m28 em28
                have hIm28 : zInv m28 := by rw [em28]; exact hIm3.any rfl (by decide) (by decide)
                have hFm28 : zFr W_90 m0 m28 := by rw [em28]; exact hFm3.any rfl
                have km28_1_1 : m28 1 1 = f6 := by rw [em28, zUp_ne (by omega)]; exact ef6
                have km28_1_2 : m28 1 2 = f11 := by rw [em28, zUp_ne (by omega)]; exact ef11
                clear em28
                refine zw_15 (c := 1) (L' := [(2, 63), (0, (i2 + 1)), (0, x9), (0, x10)]) zr_90_102 rfl (by decide) (by omega) rfl ?_
                refine zw_42 zr_90_105 ?_
                exact zw_less (L := [(2, 63), (0, (i2 + 1)), (9, 0), (9, 0)]) ⟨Or.inr rfl, Or.inr rfl, Or.inl rfl, Or.inl rfl, trivial⟩ (ihlp10_4 ((i2 + 1)) m28 hIm28 hFm28   (by omega) (by omega) (by omega))
        · intro h29
          refine zw_push zr_18_13 ?_
          refine zw_42 zr_18_14 ?_
          refine zw_R zr_18_18 (by decide) zm_18 (v := (0, 1)) (zRetB (by omega)) ?_
          rw [← hQ1]
          show zW E (d) 90 49 [(2, 63), (0, i2), (0, x9), (0, x10)] [(0, 1)] m3 Q
          refine zw_40_4 zr_90_49 ?_ ?_
          · intro h30
            refine zw_15 (c := 1) (L' := [(2, 63), (0, (i2 + 1)), (0, x9), (0, x10)]) zr_90_102 rfl (by decide) (by omega) rfl ?_
            refine zw_42 zr_90_105 ?_
            exact zw_less (L := [(2, 63), (0, (i2 + 1)), (9, 0), (9, 0)]) ⟨Or.inr rfl, Or.inr rfl, Or.inl rfl, Or.inl rfl, trivial⟩ (ihlp10_4 ((i2 + 1)) m3 hIm3 hFm3   (by omega) (by omega) (by omega))
          · intro h31; omega
  exact lp10_4 _ (0) m1 hIm1 hFm1   (by omega) (by omega) (Nat.lt_succ_self _)

set_option maxHeartbeats 8000000 in
theorem th_92 {E : zE} {d : Nat} {m0 : zM} (hd : 2 ≤ d) (hI0 : zInv m0) {a0 : Int} {a1 : Int} {a2 : Int} (ha0 : 0 ≤ a0 ∧ a0 ≤ 9) (ha1 : 1 ≤ a1 ∧ a1 ≤ 9) (ha2 : 1 ≤ a2 ∧ a2 ≤ 9) : zC E d 92 [(2, 63), (0, a0), (0, a1), (0, a2)] m0 (fun v m' => ∃ r : Int, v = (0, r) ∧ 0 ≤ r ∧ r ≤ 1 ∧ m' = m0) := by
  generalize hQ : (fun (v : zV) (m' : zM) => ∃ r : Int, v = (0, r) ∧ 0 ≤ r ∧ r ≤ 1 ∧ m' = m0) = Q
  show zW E d 92 0 [(2, 63), (0, a0), (0, a1), (0, a2), (9, 0)] [] m0 Q
  refine zw_7 zr_92_0 rfl ?_
  refine zw_3 zr_92_1 rfl ?_
  refine zw_3 zr_92_2 rfl ?_
  refine zw_C zr_92_3 (Or.inl rfl) zm_91 rfl rfl ⟨Nat.le_of_ble_eq_true rfl, Nat.le_of_ble_eq_true rfl, Nat.le_of_ble_eq_true rfl, rfl, by decide⟩ (by omega) (P := (fun v m' => zW E (d) 92 6 [(2, 63), (0, a0), (0, a1), (0, a2), (9, 0)] (if v.1 = 9 then [] else v :: []) m' Q)) ?_ (fun _ _ h => h)
  generalize hQ1 : (fun v m' => zW E (d) 92 6 [(2, 63), (0, a0), (0, a1), (0, a2), (9, 0)] (if v.1 = 9 then [] else v :: []) m' Q) = Q1
  show zW E (d - 1) 91 0 [(2, 63), (0, a0), (0, a1)] [] m0 Q1
  refine zw_7 zr_91_0 rfl ?_
  refine zw_46r (s := 65) zr_91_1 rfl rfl rfl rfl ?_
  refine zw_3 zr_91_4 rfl ?_
  refine zw_push zr_91_5 ?_
  refine zw_18 zr_91_7 (by omega) ?_
  refine zw_3 zr_91_8 rfl ?_
  refine zw_16 zr_91_9 (by omega) ?_
  refine zw_48 (len := 100) zr_91_10 rfl rfl (by omega) (by omega) ?_
  intro x1 ex1
  clear ex1
  refine zw_R zr_91_11 (by decide) zm_91 (v := (0, x1)) rfl ?_
  rw [← hQ1]
  show zW E (d) 92 6 [(2, 63), (0, a0), (0, a1), (0, a2), (9, 0)] [(0, x1)] m0 Q
  refine zw_40_5 zr_92_6 ?_ ?_
  · intro h2
    refine zw_push zr_92_31 ?_
    refine zw_10 (L' := [(2, 63), (0, a0), (0, a1), (0, a2), (0, 0)]) zr_92_32 (Nat.le_of_ble_eq_true rfl) rfl ?_
    refine zw_4 zr_92_34 rfl ?_
    refine zw_40_1 zr_92_36 ?_ ?_
    · intro h3
      refine zw_push zr_92_43 ?_
      refine zw_R zr_92_44 (by decide) zm_92 (v := (0, 0)) rfl ?_
      rw [← hQ]; exact ⟨_, rfl, by omega, by omega, rfl⟩
    · intro h4; omega
  · intro h5
    refine zw_7 zr_92_9 rfl ?_
    refine zw_3 zr_92_10 rfl ?_
    refine zw_3 zr_92_11 rfl ?_
    refine zw_C zr_92_12 (Or.inl rfl) zm_91 rfl rfl ⟨Nat.le_of_ble_eq_true rfl, Nat.le_of_ble_eq_true rfl, Nat.le_of_ble_eq_true rfl, rfl, by decide⟩ (by omega) (P := (fun v m' => zW E (d) 92 15 [(2, 63), (0, a0), (0, a1), (0, a2), (9, 0)] (if v.1 = 9 then [] else v :: []) m' Q)) ?_ (fun _ _ h => h)
    generalize hQ1 : (fun v m' => zW E (d) 92 15 [(2, 63), (0, a0), (0, a1), (0, a2), (9, 0)] (if v.1 = 9 then [] else v :: []) m' Q) = Q1
    show zW E (d - 1) 91 0 [(2, 63), (0, a1), (0, a2)] [] m0 Q1
    refine zw_7 zr_91_0 rfl ?_
    refine zw_46r (s := 65) zr_91_1 rfl rfl rfl rfl ?_
    refine zw_3 zr_91_4 rfl ?_
    refine zw_push zr_91_5 ?_
    refine zw_18 zr_91_7 (by omega) ?_
    refine zw_3 zr_91_8 rfl ?_
    refine zw_16 zr_91_9 (by omega) ?_
    refine zw_48 (len := 100) zr_91_10 rfl rfl (by omega) (by omega) ?_
    intro x6 ex6
    clear ex6
    refine zw_R zr_91_11 (by decide) zm_91 (v := (0, x6)) rfl ?_
    rw [← hQ1]
    show zW E (d) 92 15 [(2, 63), (0, a0), (0, a1), (0, a2), (9, 0)] [(0, x6)] m0 Q
    refine zw_40_5 zr_92_15 ?_ ?_
    · intro h7
      refine zw_push zr_92_31 ?_
      refine zw_10 (L' := [(2, 63), (0, a0), (0, a1), (0, a2), (0, 0)]) zr_92_32 (Nat.le_of_ble_eq_true rfl) rfl ?_
      refine zw_4 zr_92_34 rfl ?_
      refine zw_40_1 zr_92_36 ?_ ?_
      · intro h8
        refine zw_push zr_92_43 ?_
        refine zw_R zr_92_44 (by decide) zm_92 (v := (0, 0)) rfl ?_
        rw [← hQ]; exact ⟨_, rfl, by omega, by omega, rfl⟩
      · intro h9; omega
    · intro h10
      refine zw_7 zr_92_18 rfl ?_
      refine zw_3 zr_92_19 rfl ?_
      refine zw_3 zr_92_20 rfl ?_
      refine zw_C zr_92_21 (Or.inl rfl) zm_91 rfl rfl ⟨Nat.le_of_ble_eq_true rfl, Nat.le_of_ble_eq_true rfl, Nat.le_of_ble_eq_true rfl, rfl, by decide⟩ (by omega) (P := (fun v m' => zW E (d) 92 24 [(2, 63), (0, a0), (0, a1), (0, a2), (9, 0)] (if v.1 = 9 then [] else v :: []) m' Q)) ?_ (fun _ _ h => h)
      generalize hQ1 : (fun v m' => zW E (d) 92 24 [(2, 63), (0, a0), (0, a1), (0, a2), (9, 0)] (if v.1 = 9 then [] else v :: []) m' Q) = Q1
      show zW E (d - 1) 91 0 [(2, 63), (0, a2), (0, a0)] [] m0 Q1
      refine zw_7 zr_91_0 rfl ?_
      refine zw_46r (s := 65) zr_91_1 rfl rfl rfl rfl ?_
      refine zw_3 zr_91_4 rfl ?_
      refine zw_push zr_91_5 ?_
      refine zw_18 zr_91_7 (by omega) ?_
      refine zw_3 zr_91_8 rfl ?_
      refine zw_16 zr_91_9 (by omega) ?_
      refine zw_48 (len := 100) zr_91_10 rfl rfl (by omega) (by omega) ?_
      intro x11 ex11
      clear ex11
      refine zw_R zr_91_11 (by decide) zm_91 (v := (0, x11)) rfl ?_
      rw [← hQ1]
      show zW E (d) 92 24 [(2, 63), (0, a0), (0, a1), (0, a2), (9, 0)] [(0, x11)] m0 Q
      refine zw_40_5 zr_92_24 ?_ ?_
      · intro h12
        refine zw_push zr_92_31 ?_
        refine zw_10 (L' := [(2, 63), (0, a0), (0, a1), (0, a2), (0, 0)]) zr_92_32 (Nat.le_of_ble_eq_true rfl) rfl ?_
        refine zw_4 zr_92_34 rfl ?_
        refine zw_40_1 zr_92_36 ?_ ?_
        · intro h13
          refine zw_push zr_92_43 ?_
          refine zw_R zr_92_44 (by decide) zm_92 (v := (0, 0)) rfl ?_
          rw [← hQ]; exact ⟨_, rfl, by omega, by omega, rfl⟩
        · intro h14; omega
      · intro h15
        refine zw_push zr_92_27 ?_
        refine zw_42 zr_92_28 ?_
        refine zw_10 (L' := [(2, 63), (0, a0), (0, a1), (0, a2), (0, 1)]) zr_92_32 (Nat.le_of_ble_eq_true rfl) rfl ?_
        refine zw_4 zr_92_34 rfl ?_
        refine zw_40_1 zr_92_36 ?_ ?_
        · intro h16; omega
        · intro h17
          refine zw_push zr_92_39 ?_
          refine zw_42 zr_92_40 ?_
          refine zw_R zr_92_44 (by decide) zm_92 (v := (0, 1)) rfl ?_
          rw [← hQ]; exact ⟨_, rfl, by omega, by omega, rfl⟩

abbrev W_93 : List (Nat × Nat) := [(65, 1000)]
set_option maxHeartbeats 8000000 in
theorem th_93 {E : zE} {d : Nat} {m0 : zM} (hd : 3 ≤ d) (hI0 : zInv m0) : zC E d 93 [(2, 63)] m0 (fun v m' => ∃ r : Int, v = (0, r) ∧ (-2147483648) ≤ r ∧ r ≤ 2147483647 ∧ zInv m' ∧ zFr W_93 m0 m') := by
  have hF0 : zFr W_93 m0 m0 := zFr.rfl
  generalize hQ : (fun (v : zV) (m' : zM) => ∃ r : Int, v = (0, r) ∧ (-2147483648) ≤ r ∧ r ≤ 2147483647 ∧ zInv m' ∧ zFr W_93 m0 m') = Q
  show zW E d 93 0 [(2, 63), (9, 0), (9, 0), (9, 0), (9, 0)] [] m0 Q
  refine zw_7 zr_93_0 rfl ?_
  refine zw_C zr_93_1 (Or.inl rfl) zm_90 rfl rfl ⟨Nat.le_of_ble_eq_true rfl, Nat.le_of_ble_eq_true rfl, Nat.le_of_ble_eq_true rfl, rfl, by decide⟩ (by omega) (th_90 (d := d - 1) (by omega) hI0  ) ?_
  rintro _ m1 ⟨rfl, hIm1, gm1⟩
  have hFm1 : zFr W_93 m0 m1 := hF0.trans gm1 rfl
  show zW E (d) 93 4 [(2, 63), (9, 0), (9, 0), (9, 0), (9, 0)] [] m1 Q
  refine zw_push zr_93_4 ?_
  refine zw_9 (L' := [(2, 63), (0, 0), (9, 0), (9, 0), (9, 0)]) zr_93_5 (Nat.le_of_ble_eq_true rfl) rfl ?_
  refine zw_push zr_93_6 ?_
  refine zw_9 (L' := [(2, 63), (0, 0), (0, 0), (9, 0), (9, 0)]) zr_93_7 (Nat.le_of_ble_eq_true rfl) rfl ?_
  have lp8_4 : ∀ (nlp8_4 : Nat) (i2 i3 : Int), (-2147483648) ≤ i2 → i2 ≤ 2147483647 → 0 ≤ i3 → i3 ≤ 10 → (10 - i3).toNat < nlp8_4 → zW E (d) 93 8 [(2, 63), (0, i2), (0, i3), (9, 0), (9, 0)] [] m1 Q := by
    intro nlp8_4
    induction nlp8_4 with
    | zero =>
      intros
      exact absurd (by assumption : _ < 0) (Nat.not_lt_zero _)
    | succ nlp8_4 ihlp8_4 =>
      intro i2 i3 li2 ui2 li3 ui3 hmlp8_4
      refine zw_3 zr_93_8 rfl ?_
      refine zw_7 zr_93_9 rfl ?_
      refine zw_46r (s := 1) zr_93_10 rfl rfl rfl rfl ?_
      obtain ⟨f6, ef6⟩ : ∃ v, m1 1 0 = v := ⟨_, rfl⟩
      have bf6 := ib_1_0 hIm1
      rw [ef6] at bf6
      refine zw_46i zr_93_13 ef6 rfl rfl rfl ?_
      refine zw_41_3 zr_93_16 ?_ ?_
      · intro h7
        refine zw_3 zr_93_89 rfl ?_
        refine zw_R zr_93_90 (by decide) zm_93 (v := (0, i2)) rfl ?_
        rw [← hQ]; exact ⟨_, rfl, by omega, by omega, hIm1, hFm1⟩
      · intro h8
        refine zw_3 zr_93_19 rfl ?_
        refine zw_push zr_93_20 ?_
        refine zw_16 zr_93_21 (by omega) ?_
        refine zw_9 (L' := [(2, 63), (0, i2), (0, i3), (0, (i3 + 1)), (9, 0)]) zr_93_22 (Nat.le_of_ble_eq_true rfl) rfl ?_
        have lp23_11 : ∀ (nlp23_11 : Nat) (i9 i10 : Int), (-2147483648) ≤ i9 → i9 ≤ 2147483647 → 1 ≤ i10 → i10 ≤ 10 → (10 - i10).toNat < nlp23_11 → zW E (d) 93 23 [(2, 63), (0, i9), (0, i3), (0, i10), (9, 0)] [] m1 Q := by
          intro nlp23_11
          induction nlp23_11 with
          | zero =>
            intros
            exact absurd (by assumption : _ < 0) (Nat.not_lt_zero _)
          | succ nlp23_11 ihlp23_11 =>
            intro i9 i10 li9 ui9 li10 ui10 hmlp23_11
            refine zw_3 zr_93_23 rfl ?_
            refine zw_7 zr_93_24 rfl ?_
            refine zw_46r (s := 1) zr_93_25 rfl rfl rfl rfl ?_
            refine zw_46i zr_93_28 ef6 rfl rfl rfl ?_
            refine zw_41_3 zr_93_31 ?_ ?_
            · intro h13
              refine zw_15 (c := 1) (L' := [(2, 63), (0, i9), (0, (i3 + 1)), (0, i10), (9, 0)]) zr_93_83 rfl (by decide) (by omega) rfl ?_
              refine zw_42 zr_93_86 ?_
              exact zw_less (L := [(2, 63), (0, i9), (0, (i3 + 1)), (9, 0), (9, 0)]) ⟨Or.inr rfl, Or.inr rfl, Or.inr rfl, Or.inl rfl, Or.inl rfl, trivial⟩ (ihlp8_4 (i9) ((i3 + 1))  (by omega) (by omega) (by omega) (by omega) (by omega))
            · intro h14
              refine zw_3 zr_93_34 rfl ?_
              refine zw_push zr_93_35 ?_
              refine zw_16 zr_93_36 (by omega) ?_
              refine zw_10 (L' := [(2, 63), (0, i9), (0, i3), (0, i10), (0, (i10 + 1))]) zr_93_37 (Nat.le_of_ble_eq_true rfl) rfl ?_
              have lp39_17 : ∀ (nlp39_17 : Nat) (i15 i16 : Int), (-2147483648) ≤ i15 → i15 ≤ 2147483647 → 2 ≤ i16 → i16 ≤ 10 → (10 - i16).toNat < nlp39_17 → zW E (d) 93 39 [(2, 63), (0, i15), (0, i3), (0, i10), (0, i16)] [] m1 Q := by
                intro nlp39_17
                induction nlp39_17 with
                | zero =>
                  intros
                  exact absurd (by assumption : _ < 0) (Nat.not_lt_zero _)
                | succ nlp39_17 ihlp39_17 =>
                  intro i15 i16 li15 ui15 li16 ui16 hmlp39_17
                  refine zw_4 zr_93_39 rfl ?_
                  refine zw_7 zr_93_41 rfl ?_
                  refine zw_46r (s := 1) zr_93_42 rfl rfl rfl rfl ?_
                  refine zw_46i zr_93_45 ef6 rfl rfl rfl ?_
                  refine zw_41_3 zr_93_48 ?_ ?_
                  · intro h19
                    refine zw_15 (c := 1) (L' := [(2, 63), (0, i15), (0, i3), (0, (i10 + 1)), (0, i16)]) zr_93_77 rfl (by decide) (by omega) rfl ?_
                    refine zw_42 zr_93_80 ?_
                    exact zw_less (L := [(2, 63), (0, i15), (0, i3), (0, (i10 + 1)), (9, 0)]) ⟨Or.inr rfl, Or.inr rfl, Or.inr rfl, Or.inr rfl, Or.inl rfl, trivial⟩ (ihlp23_11 (i15) ((i10 + 1))  (by omega) (by omega) (by omega) (by omega) (by omega))
                  · intro h20
                    refine zw_3 zr_93_51 rfl ?_
                    refine zw_7 zr_93_52 rfl ?_
                    refine zw_3 zr_93_53 rfl ?_
                    refine zw_3 zr_93_54 rfl ?_
                    refine zw_4 zr_93_55 rfl ?_
                    refine zw_C zr_93_57 (Or.inl rfl) zm_92 rfl rfl ⟨Nat.le_of_ble_eq_true rfl, Nat.le_of_ble_eq_true rfl, Nat.le_of_ble_eq_true rfl, rfl, by decide⟩ (by omega) (th_92 (d := d - 1) (by omega) hIm1 (a0 := i3) (a1 := i10) (a2 := i16) (by omega) (by omega) (by omega)) ?_
                    rintro _ _ ⟨r21, rfl, hr21a, hr21b, rfl⟩
                    show zW E (d) 93 60 [(2, 63), (0, i15), (0, i3), (0, i10), (0, i16)] [(0, r21), (0, i15)] m1 Q
                    refine zw_7 zr_93_60 rfl ?_
                    refine zw_3 zr_93_61 rfl ?_
                    refine zw_4 zr_93_62 rfl ?_
                    refine zw_3 zr_93_64 rfl ?_
                    refine zw_C zr_93_65 (Or.inl rfl) zm_92 rfl rfl ⟨Nat.le_of_ble_eq_true rfl, Nat.le_of_ble_eq_true rfl, Nat.le_of_ble_eq_true rfl, rfl, by decide⟩ (by omega) (th_92 (d := d - 1) (by omega) hIm1 (a0 := i3) (a1 := i16) (a2 := i10) (by omega) (by omega) (by omega)) ?_
                    rintro _ _ ⟨r22, rfl, hr22a, hr22b, rfl⟩
                    show zW E (d) 93 68 [(2, 63), (0, i15), (0, i3), (0, i10), (0, i16)] [(0, r22), (0, r21), (0, i15)] m1 Q
                    refine zw_16 zr_93_68 (by omega) ?_
                    refine zw_16h zr_93_69 ?_
                    intro x23 hx23a hx23b
                    refine zw_9 (L' := [(2, 63), (0, x23), (0, i3), (0, i10), (0, i16)]) zr_93_70 (Nat.le_of_ble_eq_true rfl) rfl ?_
                    refine zw_15 (c := 1) (L' := [(2, 63), (0, x23), (0, i3), (0, i10), (0, (i16 + 1))]) zr_93_71 rfl (by decide) (by omega) rfl ?_
                    refine zw_42 zr_93_74 ?_
                    exact zw_less (L := [(2, 63), (0, x23), (0, i3), (0, i10), (0, (i16 + 1))]) ⟨Or.inr rfl, Or.inr rfl, Or.inr rfl, Or.inr rfl, Or.inr rfl, trivial⟩ (ihlp39_17 (x23) ((i16 + 1))  (by omega) (by omega) (by omega) (by omega) (by omega))
              exact lp39_17 _ (i9) ((i10 + 1))  (by omega) (by omega) (by omega) (by omega) (Nat.lt_succ_self _)
        exact lp23_11 _ (i2) ((i3 + 1))  (by omega) (by omega) (by omega) (by omega) (Nat.lt_succ_self _)
  exact lp8_4 _ (0) (0)  (by omega) (by omega) (by omega) (by omega) (Nat.lt_succ_self _)

abbrev W_124 : List (Nat × Nat) := [(65, 1000)]
set_option maxHeartbeats 8000000 in
theorem th_124 {E : zE} {d : Nat} {m0 : zM} (hd : 4 ≤ d) (hI0 : zInv m0) : zC E d 124 [(2, 0)] m0 (fun v m' => ∃ r : Int, v = (0, r) ∧ (-2147483648) ≤ r ∧ r ≤ 2147483647 ∧ zInv m' ∧ zFr W_124 m0 m') := by
  have hF0 : zFr W_124 m0 m0 := zFr.rfl
  generalize hQ : (fun (v : zV) (m' : zM) => ∃ r : Int, v = (0, r) ∧ (-2147483648) ≤ r ∧ r ≤ 2147483647 ∧ zInv m' ∧ zFr W_124 m0 m') = Q
  show zW E d 124 0 [(2, 0)] [] m0 Q
  refine zw_7 zr_124_0 rfl ?_
  refine zw_46r (s := 63) zr_124_1 rfl rfl rfl rfl ?_
  refine zw_C zr_124_4 (Or.inl rfl) zm_93 rfl rfl ⟨Nat.le_of_ble_eq_true rfl, Nat.le_of_ble_eq_true rfl, Nat.le_of_ble_eq_true rfl, rfl, by decide⟩ (by omega) (th_93 (d := d - 1) (by omega) hI0  ) ?_
  rintro _ m1 ⟨r2, rfl, hr2a, hr2b, hIm1, gm1⟩
  have hFm1 : zFr W_124 m0 m1 := hF0.trans gm1 rfl
  show zW E (d) 124 7 [(2, 0)] [(0, r2)] m1 Q
  refine zw_R zr_124_7 (by decide) zm_124 (v := (0, r2)) rfl ?_
  rw [← hQ]; exact ⟨_, rfl, by omega, by omega, hIm1, hFm1⟩

set_option maxHeartbeats 8000000 in
theorem th_197 {E : zE} {d : Nat} {m0 : zM} (hd : 2 ≤ d) (hI0 : zInv m0) {a0 : Int} {a1 : Int} (ha0 : 0 ≤ a0 ∧ a0 ≤ 9) (ha1 : 0 ≤ a1 ∧ a1 ≤ 9) : zC E d 197 [(2, 69), (0, a0), (0, a1)] m0 (fun v m' => ∃ r : Int, v = (0, r) ∧ 0 ≤ r ∧ r ≤ 1 ∧ m' = m0) := by
  generalize hQ : (fun (v : zV) (m' : zM) => ∃ r : Int, v = (0, r) ∧ 0 ≤ r ∧ r ≤ 1 ∧ m' = m0) = Q
  show zW E d 197 0 [(2, 69), (0, a0), (0, a1), (9, 0), (9, 0), (9, 0)] [] m0 Q
  refine zw_push zr_197_0 ?_
  refine zw_9 (L' := [(2, 69), (0, a0), (0, a1), (0, 0), (9, 0), (9, 0)]) zr_197_1 (Nat.le_of_ble_eq_true rfl) rfl ?_
  refine zw_push zr_197_2 ?_
  refine zw_10 (L' := [(2, 69), (0, a0), (0, a1), (0, 0), (0, 0), (9, 0)]) zr_197_3 (Nat.le_of_ble_eq_true rfl) rfl ?_
  have lp5_3 : ∀ (nlp5_3 : Nat) (i1 i2 : Int), 0 ≤ i1 → i1 ≤ 1 → 0 ≤ i2 → i2 ≤ 60 → (60 - i2).toNat < nlp5_3 → zW E (d) 197 5 [(2, 69), (0, a0), (0, a1), (0, i1), (0, i2), (9, 0)] [] m0 Q := by
    intro nlp5_3
    induction nlp5_3 with
    | zero =>
      intros
      exact absurd (by assumption : _ < 0) (Nat.not_lt_zero _)
    | succ nlp5_3 ihlp5_3 =>
      intro i1 i2 li1 ui1 li2 ui2 hmlp5_3
      refine zw_4 zr_197_5 rfl ?_
      refine zw_7 zr_197_7 rfl ?_
      refine zw_C zr_197_8 (Or.inl rfl) zm_142 rfl rfl ⟨Nat.le_of_ble_eq_true rfl, Nat.le_of_ble_eq_true rfl, Nat.le_of_ble_eq_true rfl, rfl, by decide⟩ (by omega) (P := (fun v m' => zW E (d) 197 11 [(2, 69), (0, a0), (0, a1), (0, i1), (0, i2), (9, 0)] (if v.1 = 9 then [(0, i2)] else v :: [(0, i2)]) m' Q)) ?_ (fun _ _ h => h)
      generalize hQ1 : (fun v m' => zW E (d) 197 11 [(2, 69), (0, a0), (0, a1), (0, i1), (0, i2), (9, 0)] (if v.1 = 9 then [(0, i2)] else v :: [(0, i2)]) m' Q) = Q1
      show zW E (d - 1) 142 0 [(2, 69)] [] m0 Q1
      refine zw_7 zr_142_0 rfl ?_
      refine zw_46r (s := 70) zr_142_1 rfl rfl rfl rfl ?_
      refine zw_push zr_142_4 ?_
      refine zw_48 (len := 826) zr_142_7 rfl rfl (by omega) (by omega) ?_
      intro x5 ex5
      have bx5 := ib_70_meetings hI0 (k := (823).toNat) (by omega)
      rw [← ex5] at bx5
      clear ex5
      refine zw_R zr_142_8 (by decide) zm_142 (v := (0, x5)) rfl ?_
      rw [← hQ1]
      show zW E (d) 197 11 [(2, 69), (0, a0), (0, a1), (0, i1), (0, i2), (9, 0)] [(0, x5), (0, i2)] m0 Q
      refine zw_41_3 zr_197_11 ?_ ?_
      · intro h6
        refine zw_3 zr_197_117 rfl ?_
        refine zw_R zr_197_118 (by decide) zm_197 (v := (0, i1)) (zRetB (by omega)) ?_
        rw [← hQ]; exact ⟨_, rfl, by omega, by omega, rfl⟩
      · intro h7
        refine zw_7 zr_197_14 rfl ?_
        refine zw_4 zr_197_15 rfl ?_
        refine zw_push zr_197_17 ?_
        refine zw_C zr_197_18 (Or.inl rfl) zm_144 rfl rfl ⟨Nat.le_of_ble_eq_true rfl, Nat.le_of_ble_eq_true rfl, Nat.le_of_ble_eq_true rfl, rfl, by decide⟩ (by omega) (P := (fun v m' => zW E (d) 197 21 [(2, 69), (0, a0), (0, a1), (0, i1), (0, i2), (9, 0)] (if v.1 = 9 then [] else v :: []) m' Q)) ?_ (fun _ _ h => h)
        generalize hQ1 : (fun v m' => zW E (d) 197 21 [(2, 69), (0, a0), (0, a1), (0, i1), (0, i2), (9, 0)] (if v.1 = 9 then [] else v :: []) m' Q) = Q1
        show zW E (d - 1) 144 0 [(2, 69), (0, i2), (0, 1)] [] m0 Q1
        refine zw_7 zr_144_0 rfl ?_
        refine zw_46r (s := 70) zr_144_1 rfl rfl rfl rfl ?_
        refine zw_push zr_144_4 ?_
        refine zw_push zr_144_6 ?_
        refine zw_3 zr_144_8 rfl ?_
        refine zw_18 zr_144_9 (by omega) ?_
        refine zw_16 zr_144_10 (by omega) ?_
        refine zw_3 zr_144_11 rfl ?_
        refine zw_16 zr_144_12 (by omega) ?_
        refine zw_48 (len := 826) zr_144_13 rfl rfl (by omega) (by omega) ?_
        intro x8 ex8
        have bx8 := ib_70_m1 hI0 (k := (((90 + (6 * i2)) + 1)).toNat) (by omega)
        rw [← ex8] at bx8
        clear ex8
        refine zw_R zr_144_14 (by decide) zm_144 (v := (0, x8)) rfl ?_
        rw [← hQ1]
        show zW E (d) 197 21 [(2, 69), (0, a0), (0, a1), (0, i1), (0, i2), (9, 0)] [(0, x8)] m0 Q
        refine zw_3 zr_197_21 rfl ?_
        refine zw_41_4 zr_197_22 ?_ ?_
        · intro h9
          refine zw_7 zr_197_47 rfl ?_
          refine zw_4 zr_197_48 rfl ?_
          refine zw_push zr_197_50 ?_
          refine zw_C zr_197_51 (Or.inl rfl) zm_144 rfl rfl ⟨Nat.le_of_ble_eq_true rfl, Nat.le_of_ble_eq_true rfl, Nat.le_of_ble_eq_true rfl, rfl, by decide⟩ (by omega) (P := (fun v m' => zW E (d) 197 54 [(2, 69), (0, a0), (0, a1), (0, i1), (0, i2), (9, 0)] (if v.1 = 9 then [] else v :: []) m' Q)) ?_ (fun _ _ h => h)
          generalize hQ1 : (fun v m' => zW E (d) 197 54 [(2, 69), (0, a0), (0, a1), (0, i1), (0, i2), (9, 0)] (if v.1 = 9 then [] else v :: []) m' Q) = Q1
          show zW E (d - 1) 144 0 [(2, 69), (0, i2), (0, 1)] [] m0 Q1
          refine zw_7 zr_144_0 rfl ?_
          refine zw_46r (s := 70) zr_144_1 rfl rfl rfl rfl ?_
          refine zw_push zr_144_4 ?_
          refine zw_push zr_144_6 ?_
          refine zw_3 zr_144_8 rfl ?_
          refine zw_18 zr_144_9 (by omega) ?_
          refine zw_16 zr_144_10 (by omega) ?_
          refine zw_3 zr_144_11 rfl ?_
          refine zw_16 zr_144_12 (by omega) ?_
          refine zw_48 (len := 826) zr_144_13 rfl rfl (by omega) (by omega) ?_
          intro x10 ex10
          have bx10 := ib_70_m1 hI0 (k := (((90 + (6 * i2)) + 1)).toNat) (by omega)
          rw [← ex10] at bx10
          clear ex10
          refine zw_R zr_144_14 (by decide) zm_144 (v := (0, x10)) rfl ?_
          rw [← hQ1]
          show zW E (d) 197 54 [(2, 69), (0, a0), (0, a1), (0, i1), (0, i2), (9, 0)] [(0, x10)] m0 Q
          refine zw_3 zr_197_54 rfl ?_
          refine zw_41_4 zr_197_55 ?_ ?_
          · intro h11
            refine zw_push zr_197_83 ?_
            refine zw_10 (L' := [(2, 69), (0, a0), (0, a1), (0, i1), (0, i2), (0, 0)]) zr_197_84 (Nat.le_of_ble_eq_true rfl) rfl ?_
            refine zw_3 zr_197_86 rfl ?_
            refine zw_40_4 zr_197_87 ?_ ?_
            · intro h12
              refine zw_push zr_197_105 ?_
              refine zw_42 zr_197_106 ?_
              refine zw_9 (L' := [(2, 69), (0, a0), (0, a1), (0, 1), (0, i2), (0, 0)]) zr_197_110 (Nat.le_of_ble_eq_true rfl) rfl ?_
              refine zw_15 (c := 1) (L' := [(2, 69), (0, a0), (0, a1), (0, 1), (0, (i2 + 1)), (0, 0)]) zr_197_111 rfl (by decide) (by omega) rfl ?_
              refine zw_42 zr_197_114 ?_
              exact zw_less (L := [(2, 69), (0, a0), (0, a1), (0, 1), (0, (i2 + 1)), (9, 0)]) ⟨Or.inr rfl, Or.inr rfl, Or.inr rfl, Or.inr rfl, Or.inr rfl, Or.inl rfl, trivial⟩ (ihlp5_3 (1) ((i2 + 1))  (by omega) (by omega) (by omega) (by omega) (by omega))
            · intro h13
              refine zw_4 zr_197_90 rfl ?_
              refine zw_40_1 zr_197_92 ?_ ?_
              · intro h14
                refine zw_push zr_197_109 ?_
                refine zw_9 (L' := [(2, 69), (0, a0), (0, a1), (0, 0), (0, i2), (0, 0)]) zr_197_110 (Nat.le_of_ble_eq_true rfl) rfl ?_
                refine zw_15 (c := 1) (L' := [(2, 69), (0, a0), (0, a1), (0, 0), (0, (i2 + 1)), (0, 0)]) zr_197_111 rfl (by decide) (by omega) rfl ?_
                refine zw_42 zr_197_114 ?_
                exact zw_less (L := [(2, 69), (0, a0), (0, a1), (0, 0), (0, (i2 + 1)), (9, 0)]) ⟨Or.inr rfl, Or.inr rfl, Or.inr rfl, Or.inr rfl, Or.inr rfl, Or.inl rfl, trivial⟩ (ihlp5_3 (0) ((i2 + 1))  (by omega) (by omega) (by omega) (by omega) (by omega))
              · intro h15; omega
          · intro h16
            refine zw_7 zr_197_58 rfl ?_
            refine zw_4 zr_197_59 rfl ?_
            refine zw_push zr_197_61 ?_
            refine zw_C zr_197_62 (Or.inl rfl) zm_144 rfl rfl ⟨Nat.le_of_ble_eq_true rfl, Nat.le_of_ble_eq_true rfl, Nat.le_of_ble_eq_true rfl, rfl, by decide⟩ (by omega) (P := (fun v m' => zW E (d) 197 65 [(2, 69), (0, a0), (0, a1), (0, i1), (0, i2), (9, 0)] (if v.1 = 9 then [] else v :: []) m' Q)) ?_ (fun _ _ h => h)
            generalize hQ1 : (fun v m' => zW E (d) 197 65 [(2, 69), (0, a0), (0, a1), (0, i1), (0, i2), (9, 0)] (if v.1 = 9 then [] else v :: []) m' Q) = Q1
            show zW E (d - 1) 144 0 [(2, 69), (0, i2), (0, 2)] [] m0 Q1
            refine zw_7 zr_144_0 rfl ?_
            refine zw_46r (s := 70) zr_144_1 rfl rfl rfl rfl ?_
            refine zw_push zr_144_4 ?_
            refine zw_push zr_144_6 ?_
            refine zw_3 zr_144_8 rfl ?_
            refine zw_18 zr_144_9 (by omega) ?_
            refine zw_16 zr_144_10 (by omega) ?_
            refine zw_3 zr_144_11 rfl ?_
            refine zw_16 zr_144_12 (by omega) ?_
            refine zw_48 (len := 826) zr_144_13 rfl rfl (by omega) (by omega) ?_
            intro x17 ex17
            have bx17 := ib_70_m2 hI0 (k := (((90 + (6 * i2)) + 2)).toNat) (by omega)
            rw [← ex17] at bx17
            clear ex17
            refine zw_R zr_144_14 (by decide) zm_144 (v := (0, x17)) rfl ?_
            rw [← hQ1]
            show zW E (d) 197 65 [(2, 69), (0, a0), (0, a1), (0, i1), (0, i2), (9, 0)] [(0, x17)] m0 Q
            refine zw_3 zr_197_65 rfl ?_
            refine zw_41_4 zr_197_66 ?_ ?_
            · intro h18
              refine zw_push zr_197_83 ?_
              refine zw_10 (L' := [(2, 69), (0, a0), (0, a1), (0, i1), (0, i2), (0, 0)]) zr_197_84 (Nat.le_of_ble_eq_true rfl) rfl ?_
              refine zw_3 zr_197_86 rfl ?_
              refine zw_40_4 zr_197_87 ?_ ?_
              · intro h19
                refine zw_push zr_197_105 ?_
                refine zw_42 zr_197_106 ?_
                refine zw_9 (L' := [(2, 69), (0, a0), (0, a1), (0, 1), (0, i2), (0, 0)]) zr_197_110 (Nat.le_of_ble_eq_true rfl) rfl ?_
                refine zw_15 (c := 1) (L' := [(2, 69), (0, a0), (0, a1), (0, 1), (0, (i2 + 1)), (0, 0)]) zr_197_111 rfl (by decide) (by omega) rfl ?_
                refine zw_42 zr_197_114 ?_
                exact zw_less (L := [(2, 69), (0, a0), (0, a1), (0, 1), (0, (i2 + 1)), (9, 0)]) ⟨Or.inr rfl, Or.inr rfl, Or.inr rfl, Or.inr rfl, Or.inr rfl, Or.inl rfl, trivial⟩ (ihlp5_3 (1) ((i2 + 1))  (by omega) (by omega) (by omega) (by omega) (by omega))
              · intro h20
                refine zw_4 zr_197_90 rfl ?_
                refine zw_40_1 zr_197_92 ?_ ?_
                · intro h21
                  refine zw_push zr_197_109 ?_
                  refine zw_9 (L' := [(2, 69), (0, a0), (0, a1), (0, 0), (0, i2), (0, 0)]) zr_197_110 (Nat.le_of_ble_eq_true rfl) rfl ?_
                  refine zw_15 (c := 1) (L' := [(2, 69), (0, a0), (0, a1), (0, 0), (0, (i2 + 1)), (0, 0)]) zr_197_111 rfl (by decide) (by omega) rfl ?_
                  refine zw_42 zr_197_114 ?_
                  exact zw_less (L := [(2, 69), (0, a0), (0, a1), (0, 0), (0, (i2 + 1)), (9, 0)]) ⟨Or.inr rfl, Or.inr rfl, Or.inr rfl, Or.inr rfl, Or.inr rfl, Or.inl rfl, trivial⟩ (ihlp5_3 (0) ((i2 + 1))  (by omega) (by omega) (by omega) (by omega) (by omega))
                · intro h22; omega
            · intro h23
              refine zw_7 zr_197_69 rfl ?_
              refine zw_4 zr_197_70 rfl ?_
              refine zw_push zr_197_72 ?_
              refine zw_C zr_197_73 (Or.inl rfl) zm_144 rfl rfl ⟨Nat.le_of_ble_eq_true rfl, Nat.le_of_ble_eq_true rfl, Nat.le_of_ble_eq_true rfl, rfl, by decide⟩ (by omega) (P := (fun v m' => zW E (d) 197 76 [(2, 69), (0, a0), (0, a1), (0, i1), (0, i2), (9, 0)] (if v.1 = 9 then [] else v :: []) m' Q)) ?_ (fun _ _ h => h)
              generalize hQ1 : (fun v m' => zW E (d) 197 76 [(2, 69), (0, a0), (0, a1), (0, i1), (0, i2), (9, 0)] (if v.1 = 9 then [] else v :: []) m' Q) = Q1
              show zW E (d - 1) 144 0 [(2, 69), (0, i2), (0, 3)] [] m0 Q1
              refine zw_7 zr_144_0 rfl ?_
              refine zw_46r (s := 70) zr_144_1 rfl rfl rfl rfl ?_
              refine zw_push zr_144_4 ?_
              refine zw_push zr_144_6 ?_
              refine zw_3 zr_144_8 rfl ?_
              refine zw_18 zr_144_9 (by omega) ?_
              refine zw_16 zr_144_10 (by omega) ?_
              refine zw_3 zr_144_11 rfl ?_
              refine zw_16 zr_144_12 (by omega) ?_
              refine zw_48 (len := 826) zr_144_13 rfl rfl (by omega) (by omega) ?_
              intro x24 ex24
              have bx24 := ib_70_m3 hI0 (k := (((90 + (6 * i2)) + 3)).toNat) (by omega)
              rw [← ex24] at bx24
              clear ex24
              refine zw_R zr_144_14 (by decide) zm_144 (v := (0, x24)) rfl ?_
              rw [← hQ1]
              show zW E (d) 197 76 [(2, 69), (0, a0), (0, a1), (0, i1), (0, i2), (9, 0)] [(0, x24)] m0 Q
              refine zw_40_4 zr_197_76 ?_ ?_
              · intro h25
                refine zw_push zr_197_83 ?_
                refine zw_10 (L' := [(2, 69), (0, a0), (0, a1), (0, i1), (0, i2), (0, 0)]) zr_197_84 (Nat.le_of_ble_eq_true rfl) rfl ?_
                refine zw_3 zr_197_86 rfl ?_
                refine zw_40_4 zr_197_87 ?_ ?_
                · intro h26
                  refine zw_push zr_197_105 ?_
                  refine zw_42 zr_197_106 ?_
                  refine zw_9 (L' := [(2, 69), (0, a0), (0, a1), (0, 1), (0, i2), (0, 0)]) zr_197_110 (Nat.le_of_ble_eq_true rfl) rfl ?_
                  refine zw_15 (c := 1) (L' := [(2, 69), (0, a0), (0, a1), (0, 1), (0, (i2 + 1)), (0, 0)]) zr_197_111 rfl (by decide) (by omega) rfl ?_
                  refine zw_42 zr_197_114 ?_
                  exact zw_less (L := [(2, 69), (0, a0), (0, a1), (0, 1), (0, (i2 + 1)), (9, 0)]) ⟨Or.inr rfl, Or.inr rfl, Or.inr rfl, Or.inr rfl, Or.inr rfl, Or.inl rfl, trivial⟩ (ihlp5_3 (1) ((i2 + 1))  (by omega) (by omega) (by omega) (by omega) (by omega))
                · intro h27
                  refine zw_4 zr_197_90 rfl ?_
                  refine zw_40_1 zr_197_92 ?_ ?_
                  · intro h28
                    refine zw_push zr_197_109 ?_
                    refine zw_9 (L' := [(2, 69), (0, a0), (0, a1), (0, 0), (0, i2), (0, 0)]) zr_197_110 (Nat.le_of_ble_eq_true rfl) rfl ?_
                    refine zw_15 (c := 1) (L' := [(2, 69), (0, a0), (0, a1), (0, 0), (0, (i2 + 1)), (0, 0)]) zr_197_111 rfl (by decide) (by omega) rfl ?_
                    refine zw_42 zr_197_114 ?_
                    exact zw_less (L := [(2, 69), (0, a0), (0, a1), (0, 0), (0, (i2 + 1)), (9, 0)]) ⟨Or.inr rfl, Or.inr rfl, Or.inr rfl, Or.inr rfl, Or.inr rfl, Or.inl rfl, trivial⟩ (ihlp5_3 (0) ((i2 + 1))  (by omega) (by omega) (by omega) (by omega) (by omega))
                  · intro h29; omega
              · intro h30
                refine zw_push zr_197_79 ?_
                refine zw_42 zr_197_80 ?_
                refine zw_10 (L' := [(2, 69), (0, a0), (0, a1), (0, i1), (0, i2), (0, 1)]) zr_197_84 (Nat.le_of_ble_eq_true rfl) rfl ?_
                refine zw_3 zr_197_86 rfl ?_
                refine zw_40_4 zr_197_87 ?_ ?_
                · intro h31
                  refine zw_push zr_197_105 ?_
                  refine zw_42 zr_197_106 ?_
                  refine zw_9 (L' := [(2, 69), (0, a0), (0, a1), (0, 1), (0, i2), (0, 1)]) zr_197_110 (Nat.le_of_ble_eq_true rfl) rfl ?_
                  refine zw_15 (c := 1) (L' := [(2, 69), (0, a0), (0, a1), (0, 1), (0, (i2 + 1)), (0, 1)]) zr_197_111 rfl (by decide) (by omega) rfl ?_
                  refine zw_42 zr_197_114 ?_
                  exact zw_less (L := [(2, 69), (0, a0), (0, a1), (0, 1), (0, (i2 + 1)), (9, 0)]) ⟨Or.inr rfl, Or.inr rfl, Or.inr rfl, Or.inr rfl, Or.inr rfl, Or.inl rfl, trivial⟩ (ihlp5_3 (1) ((i2 + 1))  (by omega) (by omega) (by omega) (by omega) (by omega))
                · intro h32
                  refine zw_4 zr_197_90 rfl ?_
                  refine zw_40_1 zr_197_92 ?_ ?_
                  · intro h33; omega
                  · intro h34
                    refine zw_7 zr_197_95 rfl ?_
                    refine zw_4 zr_197_96 rfl ?_
                    refine zw_push zr_197_98 ?_
                    refine zw_C zr_197_99 (Or.inl rfl) zm_144 rfl rfl ⟨Nat.le_of_ble_eq_true rfl, Nat.le_of_ble_eq_true rfl, Nat.le_of_ble_eq_true rfl, rfl, by decide⟩ (by omega) (P := (fun v m' => zW E (d) 197 102 [(2, 69), (0, a0), (0, a1), (0, i1), (0, i2), (0, 1)] (if v.1 = 9 then [] else v :: []) m' Q)) ?_ (fun _ _ h => h)
                    generalize hQ1 : (fun v m' => zW E (d) 197 102 [(2, 69), (0, a0), (0, a1), (0, i1), (0, i2), (0, 1)] (if v.1 = 9 then [] else v :: []) m' Q) = Q1
                    show zW E (d - 1) 144 0 [(2, 69), (0, i2), (0, 4)] [] m0 Q1
                    refine zw_7 zr_144_0 rfl ?_
                    refine zw_46r (s := 70) zr_144_1 rfl rfl rfl rfl ?_
                    refine zw_push zr_144_4 ?_
                    refine zw_push zr_144_6 ?_
                    refine zw_3 zr_144_8 rfl ?_
                    refine zw_18 zr_144_9 (by omega) ?_
                    refine zw_16 zr_144_10 (by omega) ?_
                    refine zw_3 zr_144_11 rfl ?_
                    refine zw_16 zr_144_12 (by omega) ?_
                    refine zw_48 (len := 826) zr_144_13 rfl rfl (by omega) (by omega) ?_
                    intro x35 ex35
                    have bx35 := ib_70_m4 hI0 (k := (((90 + (6 * i2)) + 4)).toNat) (by omega)
                    rw [← ex35] at bx35
                    clear ex35
                    refine zw_R zr_144_14 (by decide) zm_144 (v := (0, x35)) rfl ?_
                    rw [← hQ1]
                    show zW E (d) 197 102 [(2, 69), (0, a0), (0, a1), (0, i1), (0, i2), (0, 1)] [(0, x35)] m0 Q
                    refine zw_40_4 zr_197_102 ?_ ?_
                    · intro h36
                      refine zw_push zr_197_109 ?_
                      refine zw_9 (L' := [(2, 69), (0, a0), (0, a1), (0, 0), (0, i2), (0, 1)]) zr_197_110 (Nat.le_of_ble_eq_true rfl) rfl ?_
                      refine zw_15 (c := 1) (L' := [(2, 69), (0, a0), (0, a1), (0, 0), (0, (i2 + 1)), (0, 1)]) zr_197_111 rfl (by decide) (by omega) rfl ?_
                      refine zw_42 zr_197_114 ?_
                      exact zw_less (L := [(2, 69), (0, a0), (0, a1), (0, 0), (0, (i2 + 1)), (9, 0)]) ⟨Or.inr rfl, Or.inr rfl, Or.inr rfl, Or.inr rfl, Or.inr rfl, Or.inl rfl, trivial⟩ (ihlp5_3 (0) ((i2 + 1))  (by omega) (by omega) (by omega) (by omega) (by omega))
                    · intro h37
                      refine zw_push zr_197_105 ?_
                      refine zw_42 zr_197_106 ?_
                      refine zw_9 (L' := [(2, 69), (0, a0), (0, a1), (0, 1), (0, i2), (0, 1)]) zr_197_110 (Nat.le_of_ble_eq_true rfl) rfl ?_
                      refine zw_15 (c := 1) (L' := [(2, 69), (0, a0), (0, a1), (0, 1), (0, (i2 + 1)), (0, 1)]) zr_197_111 rfl (by decide) (by omega) rfl ?_
                      refine zw_42 zr_197_114 ?_
                      exact zw_less (L := [(2, 69), (0, a0), (0, a1), (0, 1), (0, (i2 + 1)), (9, 0)]) ⟨Or.inr rfl, Or.inr rfl, Or.inr rfl, Or.inr rfl, Or.inr rfl, Or.inl rfl, trivial⟩ (ihlp5_3 (1) ((i2 + 1))  (by omega) (by omega) (by omega) (by omega) (by omega))
        · intro h38
          refine zw_7 zr_197_25 rfl ?_
          refine zw_4 zr_197_26 rfl ?_
          refine zw_push zr_197_28 ?_
          refine zw_C zr_197_29 (Or.inl rfl) zm_144 rfl rfl ⟨Nat.le_of_ble_eq_true rfl, Nat.le_of_ble_eq_true rfl, Nat.le_of_ble_eq_true rfl, rfl, by decide⟩ (by omega) (P := (fun v m' => zW E (d) 197 32 [(2, 69), (0, a0), (0, a1), (0, i1), (0, i2), (9, 0)] (if v.1 = 9 then [] else v :: []) m' Q)) ?_ (fun _ _ h => h)
          generalize hQ1 : (fun v m' => zW E (d) 197 32 [(2, 69), (0, a0), (0, a1), (0, i1), (0, i2), (9, 0)] (if v.1 = 9 then [] else v :: []) m' Q) = Q1
          show zW E (d - 1) 144 0 [(2, 69), (0, i2), (0, 2)] [] m0 Q1
          refine zw_7 zr_144_0 rfl ?_
          refine zw_46r (s := 70) zr_144_1 rfl rfl rfl rfl ?_
          refine zw_push zr_144_4 ?_
          refine zw_push zr_144_6 ?_
          refine zw_3 zr_144_8 rfl ?_
          refine zw_18 zr_144_9 (by omega) ?_
          refine zw_16 zr_144_10 (by omega) ?_
          refine zw_3 zr_144_11 rfl ?_
          refine zw_16 zr_144_12 (by omega) ?_
          refine zw_48 (len := 826) zr_144_13 rfl rfl (by omega) (by omega) ?_
          intro x39 ex39
          have bx39 := ib_70_m2 hI0 (k := (((90 + (6 * i2)) + 2)).toNat) (by omega)
          rw [← ex39] at bx39
          clear ex39
          refine zw_R zr_144_14 (by decide) zm_144 (v := (0, x39)) rfl ?_
          rw [← hQ1]
          show zW E (d) 197 32 [(2, 69), (0, a0), (0, a1), (0, i1), (0, i2), (9, 0)] [(0, x39)] m0 Q
          refine zw_3 zr_197_32 rfl ?_
          refine zw_41_4 zr_197_33 ?_ ?_
          · intro h40
            refine zw_7 zr_197_47 rfl ?_
            refine zw_4 zr_197_48 rfl ?_
            refine zw_push zr_197_50 ?_
            refine zw_C zr_197_51 (Or.inl rfl) zm_144 rfl rfl ⟨Nat.le_of_ble_eq_true rfl, Nat.le_of_ble_eq_true rfl, Nat.le_of_ble_eq_true rfl, rfl, by decide⟩ (by omega) (P := (fun v m' => zW E (d) 197 54 [(2, 69), (0, a0), (0, a1), (0, i1), (0, i2), (9, 0)] (if v.1 = 9 then [] else v :: []) m' Q)) ?_ (fun _ _ h => h)
            generalize hQ1 : (fun v m' => zW E (d) 197 54 [(2, 69), (0, a0), (0, a1), (0, i1), (0, i2), (9, 0)] (if v.1 = 9 then [] else v :: []) m' Q) = Q1
            show zW E (d - 1) 144 0 [(2, 69), (0, i2), (0, 1)] [] m0 Q1
            refine zw_7 zr_144_0 rfl ?_
            refine zw_46r (s := 70) zr_144_1 rfl rfl rfl rfl ?_
            refine zw_push zr_144_4 ?_
            refine zw_push zr_144_6 ?_
            refine zw_3 zr_144_8 rfl ?_
            refine zw_18 zr_144_9 (by omega) ?_
            refine zw_16 zr_144_10 (by omega) ?_
            refine zw_3 zr_144_11 rfl ?_
            refine zw_16 zr_144_12 (by omega) ?_
            refine zw_48 (len := 826) zr_144_13 rfl rfl (by omega) (by omega) ?_
            intro x41 ex41
            have bx41 := ib_70_m1 hI0 (k := (((90 + (6 * i2)) + 1)).toNat) (by omega)
            rw [← ex41] at bx41
            clear ex41
            refine zw_R zr_144_14 (by decide) zm_144 (v := (0, x41)) rfl ?_
            rw [← hQ1]
            show zW E (d) 197 54 [(2, 69), (0, a0), (0, a1), (0, i1), (0, i2), (9, 0)] [(0, x41)] m0 Q
            refine zw_3 zr_197_54 rfl ?_
            refine zw_41_4 zr_197_55 ?_ ?_
            · intro h42
              refine zw_push zr_197_83 ?_
              refine zw_10 (L' := [(2, 69), (0, a0), (0, a1), (0, i1), (0, i2), (0, 0)]) zr_197_84 (Nat.le_of_ble_eq_true rfl) rfl ?_
              refine zw_3 zr_197_86 rfl ?_
              refine zw_40_4 zr_197_87 ?_ ?_
              · intro h43
                refine zw_push zr_197_105 ?_
                refine zw_42 zr_197_106 ?_
                refine zw_9 (L' := [(2, 69), (0, a0), (0, a1), (0, 1), (0, i2), (0, 0)]) zr_197_110 (Nat.le_of_ble_eq_true rfl) rfl ?_
                refine zw_15 (c := 1) (L' := [(2, 69), (0, a0), (0, a1), (0, 1), (0, (i2 + 1)), (0, 0)]) zr_197_111 rfl (by decide) (by omega) rfl ?_
                refine zw_42 zr_197_114 ?_
                exact zw_less (L := [(2, 69), (0, a0), (0, a1), (0, 1), (0, (i2 + 1)), (9, 0)]) ⟨Or.inr rfl, Or.inr rfl, Or.inr rfl, Or.inr rfl, Or.inr rfl, Or.inl rfl, trivial⟩ (ihlp5_3 (1) ((i2 + 1))  (by omega) (by omega) (by omega) (by omega) (by omega))
              · intro h44
                refine zw_4 zr_197_90 rfl ?_
                refine zw_40_1 zr_197_92 ?_ ?_
                · intro h45
                  refine zw_push zr_197_109 ?_
                  refine zw_9 (L' := [(2, 69), (0, a0), (0, a1), (0, 0), (0, i2), (0, 0)]) zr_197_110 (Nat.le_of_ble_eq_true rfl) rfl ?_
                  refine zw_15 (c := 1) (L' := [(2, 69), (0, a0), (0, a1), (0, 0), (0, (i2 + 1)), (0, 0)]) zr_197_111 rfl (by decide) (by omega) rfl ?_
                  refine zw_42 zr_197_114 ?_
                  exact zw_less (L := [(2, 69), (0, a0), (0, a1), (0, 0), (0, (i2 + 1)), (9, 0)]) ⟨Or.inr rfl, Or.inr rfl, Or.inr rfl, Or.inr rfl, Or.inr rfl, Or.inl rfl, trivial⟩ (ihlp5_3 (0) ((i2 + 1))  (by omega) (by omega) (by omega) (by omega) (by omega))
                · intro h46; omega
            · intro h47
              refine zw_7 zr_197_58 rfl ?_
              refine zw_4 zr_197_59 rfl ?_
              refine zw_push zr_197_61 ?_
              refine zw_C zr_197_62 (Or.inl rfl) zm_144 rfl rfl ⟨Nat.le_of_ble_eq_true rfl, Nat.le_of_ble_eq_true rfl, Nat.le_of_ble_eq_true rfl, rfl, by decide⟩ (by omega) (P := (fun v m' => zW E (d) 197 65 [(2, 69), (0, a0), (0, a1), (0, i1), (0, i2), (9, 0)] (if v.1 = 9 then [] else v :: []) m' Q)) ?_ (fun _ _ h => h)
              generalize hQ1 : (fun v m' => zW E (d) 197 65 [(2, 69), (0, a0), (0, a1), (0, i1), (0, i2), (9, 0)] (if v.1 = 9 then [] else v :: []) m' Q) = Q1
              show zW E (d - 1) 144 0 [(2, 69), (0, i2), (0, 2)] [] m0 Q1
              refine zw_7 zr_144_0 rfl ?_
              refine zw_46r (s := 70) zr_144_1 rfl rfl rfl rfl ?_
              refine zw_push zr_144_4 ?_
              refine zw_push zr_144_6 ?_
              refine zw_3 zr_144_8 rfl ?_
              refine zw_18 zr_144_9 (by omega) ?_
              refine zw_16 zr_144_10 (by omega) ?_
              refine zw_3 zr_144_11 rfl ?_
              refine zw_16 zr_144_12 (by omega) ?_
              refine zw_48 (len := 826) zr_144_13 rfl rfl (by omega) (by omega) ?_
              intro x48 ex48
              have bx48 := ib_70_m2 hI0 (k := (((90 + (6 * i2)) + 2)).toNat) (by omega)
              rw [← ex48] at bx48
              clear ex48
              refine zw_R zr_144_14 (by decide) zm_144 (v := (0, x48)) rfl ?_
              rw [← hQ1]
              show zW E (d) 197 65 [(2, 69), (0, a0), (0, a1), (0, i1), (0, i2), (9, 0)] [(0, x48)] m0 Q
              refine zw_3 zr_197_65 rfl ?_
              refine zw_41_4 zr_197_66 ?_ ?_
              · intro h49
                refine zw_push zr_197_83 ?_
                refine zw_10 (L' := [(2, 69), (0, a0), (0, a1), (0, i1), (0, i2), (0, 0)]) zr_197_84 (Nat.le_of_ble_eq_true rfl) rfl ?_
                refine zw_3 zr_197_86 rfl ?_
                refine zw_40_4 zr_197_87 ?_ ?_
                · intro h50
                  refine zw_push zr_197_105 ?_
                  refine zw_42 zr_197_106 ?_
                  refine zw_9 (L' := [(2, 69), (0, a0), (0, a1), (0, 1), (0, i2), (0, 0)]) zr_197_110 (Nat.le_of_ble_eq_true rfl) rfl ?_
                  refine zw_15 (c := 1) (L' := [(2, 69), (0, a0), (0, a1), (0, 1), (0, (i2 + 1)), (0, 0)]) zr_197_111 rfl (by decide) (by omega) rfl ?_
                  refine zw_42 zr_197_114 ?_
                  exact zw_less (L := [(2, 69), (0, a0), (0, a1), (0, 1), (0, (i2 + 1)), (9, 0)]) ⟨Or.inr rfl, Or.inr rfl, Or.inr rfl, Or.inr rfl, Or.inr rfl, Or.inl rfl, trivial⟩ (ihlp5_3 (1) ((i2 + 1))  (by omega) (by omega) (by omega) (by omega) (by omega))
                · intro h51
                  refine zw_4 zr_197_90 rfl ?_
                  refine zw_40_1 zr_197_92 ?_ ?_
                  · intro h52
                    refine zw_push zr_197_109 ?_
                    refine zw_9 (L' := [(2, 69), (0, a0), (0, a1), (0, 0), (0, i2), (0, 0)]) zr_197_110 (Nat.le_of_ble_eq_true rfl) rfl ?_
                    refine zw_15 (c := 1) (L' := [(2, 69), (0, a0), (0, a1), (0, 0), (0, (i2 + 1)), (0, 0)]) zr_197_111 rfl (by decide) (by omega) rfl ?_
                    refine zw_42 zr_197_114 ?_
                    exact zw_less (L := [(2, 69), (0, a0), (0, a1), (0, 0), (0, (i2 + 1)), (9, 0)]) ⟨Or.inr rfl, Or.inr rfl, Or.inr rfl, Or.inr rfl, Or.inr rfl, Or.inl rfl, trivial⟩ (ihlp5_3 (0) ((i2 + 1))  (by omega) (by omega) (by omega) (by omega) (by omega))
                  · intro h53; omega
              · intro h54
                refine zw_7 zr_197_69 rfl ?_
                refine zw_4 zr_197_70 rfl ?_
                refine zw_push zr_197_72 ?_
                refine zw_C zr_197_73 (Or.inl rfl) zm_144 rfl rfl ⟨Nat.le_of_ble_eq_true rfl, Nat.le_of_ble_eq_true rfl, Nat.le_of_ble_eq_true rfl, rfl, by decide⟩ (by omega) (P := (fun v m' => zW E (d) 197 76 [(2, 69), (0, a0), (0, a1), (0, i1), (0, i2), (9, 0)] (if v.1 = 9 then [] else v :: []) m' Q)) ?_ (fun _ _ h => h)
                generalize hQ1 : (fun v m' => zW E (d) 197 76 [(2, 69), (0, a0), (0, a1), (0, i1), (0, i2), (9, 0)] (if v.1 = 9 then [] else v :: []) m' Q) = Q1
                show zW E (d - 1) 144 0 [(2, 69), (0, i2), (0, 3)] [] m0 Q1
                refine zw_7 zr_144_0 rfl ?_
                refine zw_46r (s := 70) zr_144_1 rfl rfl rfl rfl ?_
                refine zw_push zr_144_4 ?_
                refine zw_push zr_144_6 ?_
                refine zw_3 zr_144_8 rfl ?_
                refine zw_18 zr_144_9 (by omega) ?_
                refine zw_16 zr_144_10 (by omega) ?_
                refine zw_3 zr_144_11 rfl ?_
                refine zw_16 zr_144_12 (by omega) ?_
                refine zw_48 (len := 826) zr_144_13 rfl rfl (by omega) (by omega) ?_
                intro x55 ex55
                have bx55 := ib_70_m3 hI0 (k := (((90 + (6 * i2)) + 3)).toNat) (by omega)
                rw [← ex55] at bx55
                clear ex55
                refine zw_R zr_144_14 (by decide) zm_144 (v := (0, x55)) rfl ?_
                rw [← hQ1]
                show zW E (d) 197 76 [(2, 69), (0, a0), (0, a1), (0, i1), (0, i2), (9, 0)] [(0, x55)] m0 Q
                refine zw_40_4 zr_197_76 ?_ ?_
                · intro h56
                  refine zw_push zr_197_83 ?_
                  refine zw_10 (L' := [(2, 69), (0, a0), (0, a1), (0, i1), (0, i2), (0, 0)]) zr_197_84 (Nat.le_of_ble_eq_true rfl) rfl ?_
                  refine zw_3 zr_197_86 rfl ?_
                  refine zw_40_4 zr_197_87 ?_ ?_
                  · intro h57
                    refine zw_push zr_197_105 ?_
                    refine zw_42 zr_197_106 ?_
                    refine zw_9 (L' := [(2, 69), (0, a0), (0, a1), (0, 1), (0, i2), (0, 0)]) zr_197_110 (Nat.le_of_ble_eq_true rfl) rfl ?_
                    refine zw_15 (c := 1) (L' := [(2, 69), (0, a0), (0, a1), (0, 1), (0, (i2 + 1)), (0, 0)]) zr_197_111 rfl (by decide) (by omega) rfl ?_
                    refine zw_42 zr_197_114 ?_
                    exact zw_less (L := [(2, 69), (0, a0), (0, a1), (0, 1), (0, (i2 + 1)), (9, 0)]) ⟨Or.inr rfl, Or.inr rfl, Or.inr rfl, Or.inr rfl, Or.inr rfl, Or.inl rfl, trivial⟩ (ihlp5_3 (1) ((i2 + 1))  (by omega) (by omega) (by omega) (by omega) (by omega))
                  · intro h58
                    refine zw_4 zr_197_90 rfl ?_
                    refine zw_40_1 zr_197_92 ?_ ?_
                    · intro h59
                      refine zw_push zr_197_109 ?_
                      refine zw_9 (L' := [(2, 69), (0, a0), (0, a1), (0, 0), (0, i2), (0, 0)]) zr_197_110 (Nat.le_of_ble_eq_true rfl) rfl ?_
                      refine zw_15 (c := 1) (L' := [(2, 69), (0, a0), (0, a1), (0, 0), (0, (i2 + 1)), (0, 0)]) zr_197_111 rfl (by decide) (by omega) rfl ?_
                      refine zw_42 zr_197_114 ?_
                      exact zw_less (L := [(2, 69), (0, a0), (0, a1), (0, 0), (0, (i2 + 1)), (9, 0)]) ⟨Or.inr rfl, Or.inr rfl, Or.inr rfl, Or.inr rfl, Or.inr rfl, Or.inl rfl, trivial⟩ (ihlp5_3 (0) ((i2 + 1))  (by omega) (by omega) (by omega) (by omega) (by omega))
                    · intro h60; omega
                · intro h61
                  refine zw_push zr_197_79 ?_
                  refine zw_42 zr_197_80 ?_
                  refine zw_10 (L' := [(2, 69), (0, a0), (0, a1), (0, i1), (0, i2), (0, 1)]) zr_197_84 (Nat.le_of_ble_eq_true rfl) rfl ?_
                  refine zw_3 zr_197_86 rfl ?_
                  refine zw_40_4 zr_197_87 ?_ ?_
                  · intro h62
                    refine zw_push zr_197_105 ?_
                    refine zw_42 zr_197_106 ?_
                    refine zw_9 (L' := [(2, 69), (0, a0), (0, a1), (0, 1), (0, i2), (0, 1)]) zr_197_110 (Nat.le_of_ble_eq_true rfl) rfl ?_
                    refine zw_15 (c := 1) (L' := [(2, 69), (0, a0), (0, a1), (0, 1), (0, (i2 + 1)), (0, 1)]) zr_197_111 rfl (by decide) (by omega) rfl ?_
                    refine zw_42 zr_197_114 ?_
                    exact zw_less (L := [(2, 69), (0, a0), (0, a1), (0, 1), (0, (i2 + 1)), (9, 0)]) ⟨Or.inr rfl, Or.inr rfl, Or.inr rfl, Or.inr rfl, Or.inr rfl, Or.inl rfl, trivial⟩ (ihlp5_3 (1) ((i2 + 1))  (by omega) (by omega) (by omega) (by omega) (by omega))
                  · intro h63
                    refine zw_4 zr_197_90 rfl ?_
                    refine zw_40_1 zr_197_92 ?_ ?_
                    · intro h64; omega
                    · intro h65
                      refine zw_7 zr_197_95 rfl ?_
                      refine zw_4 zr_197_96 rfl ?_
                      refine zw_push zr_197_98 ?_
                      refine zw_C zr_197_99 (Or.inl rfl) zm_144 rfl rfl ⟨Nat.le_of_ble_eq_true rfl, Nat.le_of_ble_eq_true rfl, Nat.le_of_ble_eq_true rfl, rfl, by decide⟩ (by omega) (P := (fun v m' => zW E (d) 197 102 [(2, 69), (0, a0), (0, a1), (0, i1), (0, i2), (0, 1)] (if v.1 = 9 then [] else v :: []) m' Q)) ?_ (fun _ _ h => h)
                      generalize hQ1 : (fun v m' => zW E (d) 197 102 [(2, 69), (0, a0), (0, a1), (0, i1), (0, i2), (0, 1)] (if v.1 = 9 then [] else v :: []) m' Q) = Q1
                      show zW E (d - 1) 144 0 [(2, 69), (0, i2), (0, 4)] [] m0 Q1
                      refine zw_7 zr_144_0 rfl ?_
                      refine zw_46r (s := 70) zr_144_1 rfl rfl rfl rfl ?_
                      refine zw_push zr_144_4 ?_
                      refine zw_push zr_144_6 ?_
                      refine zw_3 zr_144_8 rfl ?_
                      refine zw_18 zr_144_9 (by omega) ?_
                      refine zw_16 zr_144_10 (by omega) ?_
                      refine zw_3 zr_144_11 rfl ?_
                      refine zw_16 zr_144_12 (by omega) ?_
                      refine zw_48 (len := 826) zr_144_13 rfl rfl (by omega) (by omega) ?_
                      intro x66 ex66
                      have bx66 := ib_70_m4 hI0 (k := (((90 + (6 * i2)) + 4)).toNat) (by omega)
                      rw [← ex66] at bx66
                      clear ex66
                      refine zw_R zr_144_14 (by decide) zm_144 (v := (0, x66)) rfl ?_
                      rw [← hQ1]
                      show zW E (d) 197 102 [(2, 69), (0, a0), (0, a1), (0, i1), (0, i2), (0, 1)] [(0, x66)] m0 Q
                      refine zw_40_4 zr_197_102 ?_ ?_
                      · intro h67
                        refine zw_push zr_197_109 ?_
                        refine zw_9 (L' := [(2, 69), (0, a0), (0, a1), (0, 0), (0, i2), (0, 1)]) zr_197_110 (Nat.le_of_ble_eq_true rfl) rfl ?_
                        refine zw_15 (c := 1) (L' := [(2, 69), (0, a0), (0, a1), (0, 0), (0, (i2 + 1)), (0, 1)]) zr_197_111 rfl (by decide) (by omega) rfl ?_
                        refine zw_42 zr_197_114 ?_
                        exact zw_less (L := [(2, 69), (0, a0), (0, a1), (0, 0), (0, (i2 + 1)), (9, 0)]) ⟨Or.inr rfl, Or.inr rfl, Or.inr rfl, Or.inr rfl, Or.inr rfl, Or.inl rfl, trivial⟩ (ihlp5_3 (0) ((i2 + 1))  (by omega) (by omega) (by omega) (by omega) (by omega))
                      · intro h68
                        refine zw_push zr_197_105 ?_
                        refine zw_42 zr_197_106 ?_
                        refine zw_9 (L' := [(2, 69), (0, a0), (0, a1), (0, 1), (0, i2), (0, 1)]) zr_197_110 (Nat.le_of_ble_eq_true rfl) rfl ?_
                        refine zw_15 (c := 1) (L' := [(2, 69), (0, a0), (0, a1), (0, 1), (0, (i2 + 1)), (0, 1)]) zr_197_111 rfl (by decide) (by omega) rfl ?_
                        refine zw_42 zr_197_114 ?_
                        exact zw_less (L := [(2, 69), (0, a0), (0, a1), (0, 1), (0, (i2 + 1)), (9, 0)]) ⟨Or.inr rfl, Or.inr rfl, Or.inr rfl, Or.inr rfl, Or.inr rfl, Or.inl rfl, trivial⟩ (ihlp5_3 (1) ((i2 + 1))  (by omega) (by omega) (by omega) (by omega) (by omega))
          · intro h69
            refine zw_7 zr_197_36 rfl ?_
            refine zw_4 zr_197_37 rfl ?_
            refine zw_push zr_197_39 ?_
            refine zw_C zr_197_40 (Or.inl rfl) zm_144 rfl rfl ⟨Nat.le_of_ble_eq_true rfl, Nat.le_of_ble_eq_true rfl, Nat.le_of_ble_eq_true rfl, rfl, by decide⟩ (by omega) (P := (fun v m' => zW E (d) 197 43 [(2, 69), (0, a0), (0, a1), (0, i1), (0, i2), (9, 0)] (if v.1 = 9 then [] else v :: []) m' Q)) ?_ (fun _ _ h => h)
            generalize hQ1 : (fun v m' => zW E (d) 197 43 [(2, 69), (0, a0), (0, a1), (0, i1), (0, i2), (9, 0)] (if v.1 = 9 then [] else v :: []) m' Q) = Q1
            show zW E (d - 1) 144 0 [(2, 69), (0, i2), (0, 3)] [] m0 Q1
            refine zw_7 zr_144_0 rfl ?_
            refine zw_46r (s := 70) zr_144_1 rfl rfl rfl rfl ?_
            refine zw_push zr_144_4 ?_
            refine zw_push zr_144_6 ?_
            refine zw_3 zr_144_8 rfl ?_
            refine zw_18 zr_144_9 (by omega) ?_
            refine zw_16 zr_144_10 (by omega) ?_
            refine zw_3 zr_144_11 rfl ?_
            refine zw_16 zr_144_12 (by omega) ?_
            refine zw_48 (len := 826) zr_144_13 rfl rfl (by omega) (by omega) ?_
            intro x70 ex70
            have bx70 := ib_70_m3 hI0 (k := (((90 + (6 * i2)) + 3)).toNat) (by omega)
            rw [← ex70] at bx70
            clear ex70
            refine zw_R zr_144_14 (by decide) zm_144 (v := (0, x70)) rfl ?_
            rw [← hQ1]
            show zW E (d) 197 43 [(2, 69), (0, a0), (0, a1), (0, i1), (0, i2), (9, 0)] [(0, x70)] m0 Q
            refine zw_push zr_197_43 ?_
            refine zw_41_1 zr_197_44 ?_ ?_
            · intro h71
              refine zw_push zr_197_79 ?_
              refine zw_42 zr_197_80 ?_
              refine zw_10 (L' := [(2, 69), (0, a0), (0, a1), (0, i1), (0, i2), (0, 1)]) zr_197_84 (Nat.le_of_ble_eq_true rfl) rfl ?_
              refine zw_3 zr_197_86 rfl ?_
              refine zw_40_4 zr_197_87 ?_ ?_
              · intro h72
                refine zw_push zr_197_105 ?_
                refine zw_42 zr_197_106 ?_
                refine zw_9 (L' := [(2, 69), (0, a0), (0, a1), (0, 1), (0, i2), (0, 1)]) zr_197_110 (Nat.le_of_ble_eq_true rfl) rfl ?_
                refine zw_15 (c := 1) (L' := [(2, 69), (0, a0), (0, a1), (0, 1), (0, (i2 + 1)), (0, 1)]) zr_197_111 rfl (by decide) (by omega) rfl ?_
                refine zw_42 zr_197_114 ?_
                exact zw_less (L := [(2, 69), (0, a0), (0, a1), (0, 1), (0, (i2 + 1)), (9, 0)]) ⟨Or.inr rfl, Or.inr rfl, Or.inr rfl, Or.inr rfl, Or.inr rfl, Or.inl rfl, trivial⟩ (ihlp5_3 (1) ((i2 + 1))  (by omega) (by omega) (by omega) (by omega) (by omega))
              · intro h73
                refine zw_4 zr_197_90 rfl ?_
                refine zw_40_1 zr_197_92 ?_ ?_
                · intro h74; omega
                · intro h75
                  refine zw_7 zr_197_95 rfl ?_
                  refine zw_4 zr_197_96 rfl ?_
                  refine zw_push zr_197_98 ?_
                  refine zw_C zr_197_99 (Or.inl rfl) zm_144 rfl rfl ⟨Nat.le_of_ble_eq_true rfl, Nat.le_of_ble_eq_true rfl, Nat.le_of_ble_eq_true rfl, rfl, by decide⟩ (by omega) (P := (fun v m' => zW E (d) 197 102 [(2, 69), (0, a0), (0, a1), (0, i1), (0, i2), (0, 1)] (if v.1 = 9 then [] else v :: []) m' Q)) ?_ (fun _ _ h => h)
                  generalize hQ1 : (fun v m' => zW E (d) 197 102 [(2, 69), (0, a0), (0, a1), (0, i1), (0, i2), (0, 1)] (if v.1 = 9 then [] else v :: []) m' Q) = Q1
                  show zW E (d - 1) 144 0 [(2, 69), (0, i2), (0, 4)] [] m0 Q1
                  refine zw_7 zr_144_0 rfl ?_
                  refine zw_46r (s := 70) zr_144_1 rfl rfl rfl rfl ?_
                  refine zw_push zr_144_4 ?_
                  refine zw_push zr_144_6 ?_
                  refine zw_3 zr_144_8 rfl ?_
                  refine zw_18 zr_144_9 (by omega) ?_
                  refine zw_16 zr_144_10 (by omega) ?_
                  refine zw_3 zr_144_11 rfl ?_
                  refine zw_16 zr_144_12 (by omega) ?_
                  refine zw_48 (len := 826) zr_144_13 rfl rfl (by omega) (by omega) ?_
                  intro x76 ex76
                  have bx76 := ib_70_m4 hI0 (k := (((90 + (6 * i2)) + 4)).toNat) (by omega)
                  rw [← ex76] at bx76
                  clear ex76
                  refine zw_R zr_144_14 (by decide) zm_144 (v := (0, x76)) rfl ?_
                  rw [← hQ1]
                  show zW E (d) 197 102 [(2, 69), (0, a0), (0, a1), (0, i1), (0, i2), (0, 1)] [(0, x76)] m0 Q
                  refine zw_40_4 zr_197_102 ?_ ?_
                  · intro h77
                    refine zw_push zr_197_109 ?_
                    refine zw_9 (L' := [(2, 69), (0, a0), (0, a1), (0, 0), (0, i2), (0, 1)]) zr_197_110 (Nat.le_of_ble_eq_true rfl) rfl ?_
                    refine zw_15 (c := 1) (L' := [(2, 69), (0, a0), (0, a1), (0, 0), (0, (i2 + 1)), (0, 1)]) zr_197_111 rfl (by decide) (by omega) rfl ?_
                    refine zw_42 zr_197_114 ?_
                    exact zw_less (L := [(2, 69), (0, a0), (0, a1), (0, 0), (0, (i2 + 1)), (9, 0)]) ⟨Or.inr rfl, Or.inr rfl, Or.inr rfl, Or.inr rfl, Or.inr rfl, Or.inl rfl, trivial⟩ (ihlp5_3 (0) ((i2 + 1))  (by omega) (by omega) (by omega) (by omega) (by omega))
                  · intro h78
                    refine zw_push zr_197_105 ?_
                    refine zw_42 zr_197_106 ?_
                    refine zw_9 (L' := [(2, 69), (0, a0), (0, a1), (0, 1), (0, i2), (0, 1)]) zr_197_110 (Nat.le_of_ble_eq_true rfl) rfl ?_
                    refine zw_15 (c := 1) (L' := [(2, 69), (0, a0), (0, a1), (0, 1), (0, (i2 + 1)), (0, 1)]) zr_197_111 rfl (by decide) (by omega) rfl ?_
                    refine zw_42 zr_197_114 ?_
                    exact zw_less (L := [(2, 69), (0, a0), (0, a1), (0, 1), (0, (i2 + 1)), (9, 0)]) ⟨Or.inr rfl, Or.inr rfl, Or.inr rfl, Or.inr rfl, Or.inr rfl, Or.inl rfl, trivial⟩ (ihlp5_3 (1) ((i2 + 1))  (by omega) (by omega) (by omega) (by omega) (by omega))
            · intro h79
              refine zw_7 zr_197_47 rfl ?_
              refine zw_4 zr_197_48 rfl ?_
              refine zw_push zr_197_50 ?_
              refine zw_C zr_197_51 (Or.inl rfl) zm_144 rfl rfl ⟨Nat.le_of_ble_eq_true rfl, Nat.le_of_ble_eq_true rfl, Nat.le_of_ble_eq_true rfl, rfl, by decide⟩ (by omega) (P := (fun v m' => zW E (d) 197 54 [(2, 69), (0, a0), (0, a1), (0, i1), (0, i2), (9, 0)] (if v.1 = 9 then [] else v :: []) m' Q)) ?_ (fun _ _ h => h)
              generalize hQ1 : (fun v m' => zW E (d) 197 54 [(2, 69), (0, a0), (0, a1), (0, i1), (0, i2), (9, 0)] (if v.1 = 9 then [] else v :: []) m' Q) = Q1
              show zW E (d - 1) 144 0 [(2, 69), (0, i2), (0, 1)] [] m0 Q1
              refine zw_7 zr_144_0 rfl ?_
              refine zw_46r (s := 70) zr_144_1 rfl rfl rfl rfl ?_
              refine zw_push zr_144_4 ?_
              refine zw_push zr_144_6 ?_
              refine zw_3 zr_144_8 rfl ?_
              refine zw_18 zr_144_9 (by omega) ?_
              refine zw_16 zr_144_10 (by omega) ?_
              refine zw_3 zr_144_11 rfl ?_
              refine zw_16 zr_144_12 (by omega) ?_
              refine zw_48 (len := 826) zr_144_13 rfl rfl (by omega) (by omega) ?_
              intro x80 ex80
              have bx80 := ib_70_m1 hI0 (k := (((90 + (6 * i2)) + 1)).toNat) (by omega)
              rw [← ex80] at bx80
              clear ex80
              refine zw_R zr_144_14 (by decide) zm_144 (v := (0, x80)) rfl ?_
              rw [← hQ1]
              show zW E (d) 197 54 [(2, 69), (0, a0), (0, a1), (0, i1), (0, i2), (9, 0)] [(0, x80)] m0 Q
              refine zw_3 zr_197_54 rfl ?_
              refine zw_41_4 zr_197_55 ?_ ?_
              · intro h81
                refine zw_push zr_197_83 ?_
                refine zw_10 (L' := [(2, 69), (0, a0), (0, a1), (0, i1), (0, i2), (0, 0)]) zr_197_84 (Nat.le_of_ble_eq_true rfl) rfl ?_
                refine zw_3 zr_197_86 rfl ?_
                refine zw_40_4 zr_197_87 ?_ ?_
                · intro h82
                  refine zw_push zr_197_105 ?_
                  refine zw_42 zr_197_106 ?_
                  refine zw_9 (L' := [(2, 69), (0, a0), (0, a1), (0, 1), (0, i2), (0, 0)]) zr_197_110 (Nat.le_of_ble_eq_true rfl) rfl ?_
                  refine zw_15 (c := 1) (L' := [(2, 69), (0, a0), (0, a1), (0, 1), (0, (i2 + 1)), (0, 0)]) zr_197_111 rfl (by decide) (by omega) rfl ?_
                  refine zw_42 zr_197_114 ?_
                  exact zw_less (L := [(2, 69), (0, a0), (0, a1), (0, 1), (0, (i2 + 1)), (9, 0)]) ⟨Or.inr rfl, Or.inr rfl, Or.inr rfl, Or.inr rfl, Or.inr rfl, Or.inl rfl, trivial⟩ (ihlp5_3 (1) ((i2 + 1))  (by omega) (by omega) (by omega) (by omega) (by omega))
                · intro h83
                  refine zw_4 zr_197_90 rfl ?_
                  refine zw_40_1 zr_197_92 ?_ ?_
                  · intro h84
                    refine zw_push zr_197_109 ?_
                    refine zw_9 (L' := [(2, 69), (0, a0), (0, a1), (0, 0), (0, i2), (0, 0)]) zr_197_110 (Nat.le_of_ble_eq_true rfl) rfl ?_
                    refine zw_15 (c := 1) (L' := [(2, 69), (0, a0), (0, a1), (0, 0), (0, (i2 + 1)), (0, 0)]) zr_197_111 rfl (by decide) (by omega) rfl ?_
                    refine zw_42 zr_197_114 ?_
                    exact zw_less (L := [(2, 69), (0, a0), (0, a1), (0, 0), (0, (i2 + 1)), (9, 0)]) ⟨Or.inr rfl, Or.inr rfl, Or.inr rfl, Or.inr rfl, Or.inr rfl, Or.inl rfl, trivial⟩ (ihlp5_3 (0) ((i2 + 1))  (by omega) (by omega) (by omega) (by omega) (by omega))
                  · intro h85; omega
              · intro h86
                refine zw_7 zr_197_58 rfl ?_
                refine zw_4 zr_197_59 rfl ?_
                refine zw_push zr_197_61 ?_
                refine zw_C zr_197_62 (Or.inl rfl) zm_144 rfl rfl ⟨Nat.le_of_ble_eq_true rfl, Nat.le_of_ble_eq_true rfl, Nat.le_of_ble_eq_true rfl, rfl, by decide⟩ (by omega) (P := (fun v m' => zW E (d) 197 65 [(2, 69), (0, a0), (0, a1), (0, i1), (0, i2), (9, 0)] (if v.1 = 9 then [] else v :: []) m' Q)) ?_ (fun _ _ h => h)
                generalize hQ1 : (fun v m' => zW E (d) 197 65 [(2, 69), (0, a0), (0, a1), (0, i1), (0, i2), (9, 0)] (if v.1 = 9 then [] else v :: []) m' Q) = Q1
                show zW E (d - 1) 144 0 [(2, 69), (0, i2), (0, 2)] [] m0 Q1
                refine zw_7 zr_144_0 rfl ?_
                refine zw_46r (s := 70) zr_144_1 rfl rfl rfl rfl ?_
                refine zw_push zr_144_4 ?_
                refine zw_push zr_144_6 ?_
                refine zw_3 zr_144_8 rfl ?_
                refine zw_18 zr_144_9 (by omega) ?_
                refine zw_16 zr_144_10 (by omega) ?_
                refine zw_3 zr_144_11 rfl ?_
                refine zw_16 zr_144_12 (by omega) ?_
                refine zw_48 (len := 826) zr_144_13 rfl rfl (by omega) (by omega) ?_
                intro x87 ex87
                have bx87 := ib_70_m2 hI0 (k := (((90 + (6 * i2)) + 2)).toNat) (by omega)
                rw [← ex87] at bx87
                clear ex87
                refine zw_R zr_144_14 (by decide) zm_144 (v := (0, x87)) rfl ?_
                rw [← hQ1]
                show zW E (d) 197 65 [(2, 69), (0, a0), (0, a1), (0, i1), (0, i2), (9, 0)] [(0, x87)] m0 Q
                refine zw_3 zr_197_65 rfl ?_
                refine zw_41_4 zr_197_66 ?_ ?_
                · intro h88
                  refine zw_push zr_197_83 ?_
                  refine zw_10 (L' := [(2, 69), (0, a0), (0, a1), (0, i1), (0, i2), (0, 0)]) zr_197_84 (Nat.le_of_ble_eq_true rfl) rfl ?_
                  refine zw_3 zr_197_86 rfl ?_
                  refine zw_40_4 zr_197_87 ?_ ?_
                  · intro h89
                    refine zw_push zr_197_105 ?_
                    refine zw_42 zr_197_106 ?_
                    refine zw_9 (L' := [(2, 69), (0, a0), (0, a1), (0, 1), (0, i2), (0, 0)]) zr_197_110 (Nat.le_of_ble_eq_true rfl) rfl ?_
                    refine zw_15 (c := 1) (L' := [(2, 69), (0, a0), (0, a1), (0, 1), (0, (i2 + 1)), (0, 0)]) zr_197_111 rfl (by decide) (by omega) rfl ?_
                    refine zw_42 zr_197_114 ?_
                    exact zw_less (L := [(2, 69), (0, a0), (0, a1), (0, 1), (0, (i2 + 1)), (9, 0)]) ⟨Or.inr rfl, Or.inr rfl, Or.inr rfl, Or.inr rfl, Or.inr rfl, Or.inl rfl, trivial⟩ (ihlp5_3 (1) ((i2 + 1))  (by omega) (by omega) (by omega) (by omega) (by omega))
                  · intro h90
                    refine zw_4 zr_197_90 rfl ?_
                    refine zw_40_1 zr_197_92 ?_ ?_
                    · intro h91
                      refine zw_push zr_197_109 ?_
                      refine zw_9 (L' := [(2, 69), (0, a0), (0, a1), (0, 0), (0, i2), (0, 0)]) zr_197_110 (Nat.le_of_ble_eq_true rfl) rfl ?_
                      refine zw_15 (c := 1) (L' := [(2, 69), (0, a0), (0, a1), (0, 0), (0, (i2 + 1)), (0, 0)]) zr_197_111 rfl (by decide) (by omega) rfl ?_
                      refine zw_42 zr_197_114 ?_
                      exact zw_less (L := [(2, 69), (0, a0), (0, a1), (0, 0), (0, (i2 + 1)), (9, 0)]) ⟨Or.inr rfl, Or.inr rfl, Or.inr rfl, Or.inr rfl, Or.inr rfl, Or.inl rfl, trivial⟩ (ihlp5_3 (0) ((i2 + 1))  (by omega) (by omega) (by omega) (by omega) (by omega))
                    · intro h92; omega
                · intro h93
                  refine zw_7 zr_197_69 rfl ?_
                  refine zw_4 zr_197_70 rfl ?_
                  refine zw_push zr_197_72 ?_
                  refine zw_C zr_197_73 (Or.inl rfl) zm_144 rfl rfl ⟨Nat.le_of_ble_eq_true rfl, Nat.le_of_ble_eq_true rfl, Nat.le_of_ble_eq_true rfl, rfl, by decide⟩ (by omega) (P := (fun v m' => zW E (d) 197 76 [(2, 69), (0, a0), (0, a1), (0, i1), (0, i2), (9, 0)] (if v.1 = 9 then [] else v :: []) m' Q)) ?_ (fun _ _ h => h)
                  generalize hQ1 : (fun v m' => zW E (d) 197 76 [(2, 69), (0, a0), (0, a1), (0, i1), (0, i2), (9, 0)] (if v.1 = 9 then [] else v :: []) m' Q) = Q1
                  show zW E (d - 1) 144 0 [(2, 69), (0, i2), (0, 3)] [] m0 Q1
                  refine zw_7 zr_144_0 rfl ?_
                  refine zw_46r (s := 70) zr_144_1 rfl rfl rfl rfl ?_
                  refine zw_push zr_144_4 ?_
                  refine zw_push zr_144_6 ?_
                  refine zw_3 zr_144_8 rfl ?_
                  refine zw_18 zr_144_9 (by omega) ?_
                  refine zw_16 zr_144_10 (by omega) ?_
                  refine zw_3 zr_144_11 rfl ?_
                  refine zw_16 zr_144_12 (by omega) ?_
                  refine zw_48 (len := 826) zr_144_13 rfl rfl (by omega) (by omega) ?_
                  intro x94 ex94
                  have bx94 := ib_70_m3 hI0 (k := (((90 + (6 * i2)) + 3)).toNat) (by omega)
                  rw [← ex94] at bx94
                  clear ex94
                  refine zw_R zr_144_14 (by decide) zm_144 (v := (0, x94)) rfl ?_
                  rw [← hQ1]
                  show zW E (d) 197 76 [(2, 69), (0, a0), (0, a1), (0, i1), (0, i2), (9, 0)] [(0, x94)] m0 Q
                  refine zw_40_4 zr_197_76 ?_ ?_
                  · intro h95
                    refine zw_push zr_197_83 ?_
                    refine zw_10 (L' := [(2, 69), (0, a0), (0, a1), (0, i1), (0, i2), (0, 0)]) zr_197_84 (Nat.le_of_ble_eq_true rfl) rfl ?_
                    refine zw_3 zr_197_86 rfl ?_
                    refine zw_40_4 zr_197_87 ?_ ?_
                    · intro h96
                      refine zw_push zr_197_105 ?_
                      refine zw_42 zr_197_106 ?_
                      refine zw_9 (L' := [(2, 69), (0, a0), (0, a1), (0, 1), (0, i2), (0, 0)]) zr_197_110 (Nat.le_of_ble_eq_true rfl) rfl ?_
                      refine zw_15 (c := 1) (L' := [(2, 69), (0, a0), (0, a1), (0, 1), (0, (i2 + 1)), (0, 0)]) zr_197_111 rfl (by decide) (by omega) rfl ?_
                      refine zw_42 zr_197_114 ?_
                      exact zw_less (L := [(2, 69), (0, a0), (0, a1), (0, 1), (0, (i2 + 1)), (9, 0)]) ⟨Or.inr rfl, Or.inr rfl, Or.inr rfl, Or.inr rfl, Or.inr rfl, Or.inl rfl, trivial⟩ (ihlp5_3 (1) ((i2 + 1))  (by omega) (by omega) (by omega) (by omega) (by omega))
                    · intro h97
                      refine zw_4 zr_197_90 rfl ?_
                      refine zw_40_1 zr_197_92 ?_ ?_
                      · intro h98
                        refine zw_push zr_197_109 ?_
                        refine zw_9 (L' := [(2, 69), (0, a0), (0, a1), (0, 0), (0, i2), (0, 0)]) zr_197_110 (Nat.le_of_ble_eq_true rfl) rfl ?_
                        refine zw_15 (c := 1) (L' := [(2, 69), (0, a0), (0, a1), (0, 0), (0, (i2 + 1)), (0, 0)]) zr_197_111 rfl (by decide) (by omega) rfl ?_
                        refine zw_42 zr_197_114 ?_
                        exact zw_less (L := [(2, 69), (0, a0), (0, a1), (0, 0), (0, (i2 + 1)), (9, 0)]) ⟨Or.inr rfl, Or.inr rfl, Or.inr rfl, Or.inr rfl, Or.inr rfl, Or.inl rfl, trivial⟩ (ihlp5_3 (0) ((i2 + 1))  (by omega) (by omega) (by omega) (by omega) (by omega))
                      · intro h99; omega
                  · intro h100
                    refine zw_push zr_197_79 ?_
                    refine zw_42 zr_197_80 ?_
                    refine zw_10 (L' := [(2, 69), (0, a0), (0, a1), (0, i1), (0, i2), (0, 1)]) zr_197_84 (Nat.le_of_ble_eq_true rfl) rfl ?_
                    refine zw_3 zr_197_86 rfl ?_
                    refine zw_40_4 zr_197_87 ?_ ?_
                    · intro h101
                      refine zw_push zr_197_105 ?_
                      refine zw_42 zr_197_106 ?_
                      refine zw_9 (L' := [(2, 69), (0, a0), (0, a1), (0, 1), (0, i2), (0, 1)]) zr_197_110 (Nat.le_of_ble_eq_true rfl) rfl ?_
                      refine zw_15 (c := 1) (L' := [(2, 69), (0, a0), (0, a1), (0, 1), (0, (i2 + 1)), (0, 1)]) zr_197_111 rfl (by decide) (by omega) rfl ?_
                      refine zw_42 zr_197_114 ?_
                      exact zw_less (L := [(2, 69), (0, a0), (0, a1), (0, 1), (0, (i2 + 1)), (9, 0)]) ⟨Or.inr rfl, Or.inr rfl, Or.inr rfl, Or.inr rfl, Or.inr rfl, Or.inl rfl, trivial⟩ (ihlp5_3 (1) ((i2 + 1))  (by omega) (by omega) (by omega) (by omega) (by omega))
                    · intro h102
                      refine zw_4 zr_197_90 rfl ?_
                      refine zw_40_1 zr_197_92 ?_ ?_
                      · intro h103; omega
                      · intro h104
                        refine zw_7 zr_197_95 rfl ?_
                        refine zw_4 zr_197_96 rfl ?_
                        refine zw_push zr_197_98 ?_
                        refine zw_C zr_197_99 (Or.inl rfl) zm_144 rfl rfl ⟨Nat.le_of_ble_eq_true rfl, Nat.le_of_ble_eq_true rfl, Nat.le_of_ble_eq_true rfl, rfl, by decide⟩ (by omega) (P := (fun v m' => zW E (d) 197 102 [(2, 69), (0, a0), (0, a1), (0, i1), (0, i2), (0, 1)] (if v.1 = 9 then [] else v :: []) m' Q)) ?_ (fun _ _ h => h)
                        generalize hQ1 : (fun v m' => zW E (d) 197 102 [(2, 69), (0, a0), (0, a1), (0, i1), (0, i2), (0, 1)] (if v.1 = 9 then [] else v :: []) m' Q) = Q1
                        show zW E (d - 1) 144 0 [(2, 69), (0, i2), (0, 4)] [] m0 Q1
                        refine zw_7 zr_144_0 rfl ?_
                        refine zw_46r (s := 70) zr_144_1 rfl rfl rfl rfl ?_
                        refine zw_push zr_144_4 ?_
                        refine zw_push zr_144_6 ?_
                        refine zw_3 zr_144_8 rfl ?_
                        refine zw_18 zr_144_9 (by omega) ?_
                        refine zw_16 zr_144_10 (by omega) ?_
                        refine zw_3 zr_144_11 rfl ?_
                        refine zw_16 zr_144_12 (by omega) ?_
                        refine zw_48 (len := 826) zr_144_13 rfl rfl (by omega) (by omega) ?_
                        intro x105 ex105
                        have bx105 := ib_70_m4 hI0 (k := (((90 + (6 * i2)) + 4)).toNat) (by omega)
                        rw [← ex105] at bx105
                        clear ex105
                        refine zw_R zr_144_14 (by decide) zm_144 (v := (0, x105)) rfl ?_
                        rw [← hQ1]
                        show zW E (d) 197 102 [(2, 69), (0, a0), (0, a1), (0, i1), (0, i2), (0, 1)] [(0, x105)] m0 Q
                        refine zw_40_4 zr_197_102 ?_ ?_
                        · intro h106
                          refine zw_push zr_197_109 ?_
                          refine zw_9 (L' := [(2, 69), (0, a0), (0, a1), (0, 0), (0, i2), (0, 1)]) zr_197_110 (Nat.le_of_ble_eq_true rfl) rfl ?_
                          refine zw_15 (c := 1) (L' := [(2, 69), (0, a0), (0, a1), (0, 0), (0, (i2 + 1)), (0, 1)]) zr_197_111 rfl (by decide) (by omega) rfl ?_
                          refine zw_42 zr_197_114 ?_
                          exact zw_less (L := [(2, 69), (0, a0), (0, a1), (0, 0), (0, (i2 + 1)), (9, 0)]) ⟨Or.inr rfl, Or.inr rfl, Or.inr rfl, Or.inr rfl, Or.inr rfl, Or.inl rfl, trivial⟩ (ihlp5_3 (0) ((i2 + 1))  (by omega) (by omega) (by omega) (by omega) (by omega))
                        · intro h107
                          refine zw_push zr_197_105 ?_
                          refine zw_42 zr_197_106 ?_
                          refine zw_9 (L' := [(2, 69), (0, a0), (0, a1), (0, 1), (0, i2), (0, 1)]) zr_197_110 (Nat.le_of_ble_eq_true rfl) rfl ?_
                          refine zw_15 (c := 1) (L' := [(2, 69), (0, a0), (0, a1), (0, 1), (0, (i2 + 1)), (0, 1)]) zr_197_111 rfl (by decide) (by omega) rfl ?_
                          refine zw_42 zr_197_114 ?_
                          exact zw_less (L := [(2, 69), (0, a0), (0, a1), (0, 1), (0, (i2 + 1)), (9, 0)]) ⟨Or.inr rfl, Or.inr rfl, Or.inr rfl, Or.inr rfl, Or.inr rfl, Or.inl rfl, trivial⟩ (ihlp5_3 (1) ((i2 + 1))  (by omega) (by omega) (by omega) (by omega) (by omega))
  exact lp5_3 _ (0) (0)  (by omega) (by omega) (by omega) (by omega) (Nat.lt_succ_self _)

set_option maxHeartbeats 8000000 in
theorem th_198 {E : zE} {d : Nat} {m0 : zM} (hd : 3 ≤ d) (hI0 : zInv m0) : zC E d 198 [(2, 69)] m0 (fun v m' => ∃ r : Int, v = (0, r) ∧ (-2147483648) ≤ r ∧ r ≤ 2147483647 ∧ m' = m0) := by
  generalize hQ : (fun (v : zV) (m' : zM) => ∃ r : Int, v = (0, r) ∧ (-2147483648) ≤ r ∧ r ≤ 2147483647 ∧ m' = m0) = Q
  show zW E d 198 0 [(2, 69), (9, 0), (9, 0), (9, 0), (9, 0)] [] m0 Q
  refine zw_push zr_198_0 ?_
  refine zw_9 (L' := [(2, 69), (0, 0), (9, 0), (9, 0), (9, 0)]) zr_198_1 (Nat.le_of_ble_eq_true rfl) rfl ?_
  refine zw_push zr_198_2 ?_
  refine zw_9 (L' := [(2, 69), (0, 0), (0, 0), (9, 0), (9, 0)]) zr_198_3 (Nat.le_of_ble_eq_true rfl) rfl ?_
  have lp4_3 : ∀ (nlp4_3 : Nat) (i1 i2 : Int), (-2147483648) ≤ i1 → i1 ≤ 2147483647 → 0 ≤ i2 → i2 ≤ 10 → (10 - i2).toNat < nlp4_3 → zW E (d) 198 4 [(2, 69), (0, i1), (0, i2), (9, 0), (9, 0)] [] m0 Q := by
    intro nlp4_3
    induction nlp4_3 with
    | zero =>
      intros
      exact absurd (by assumption : _ < 0) (Nat.not_lt_zero _)
    | succ nlp4_3 ihlp4_3 =>
      intro i1 i2 li1 ui1 li2 ui2 hmlp4_3
      refine zw_3 zr_198_4 rfl ?_
      refine zw_7 zr_198_5 rfl ?_
      refine zw_C zr_198_6 (Or.inl rfl) zm_141 rfl rfl ⟨Nat.le_of_ble_eq_true rfl, Nat.le_of_ble_eq_true rfl, Nat.le_of_ble_eq_true rfl, rfl, by decide⟩ (by omega) (P := (fun v m' => zW E (d) 198 9 [(2, 69), (0, i1), (0, i2), (9, 0), (9, 0)] (if v.1 = 9 then [(0, i2)] else v :: [(0, i2)]) m' Q)) ?_ (fun _ _ h => h)
      generalize hQ1 : (fun v m' => zW E (d) 198 9 [(2, 69), (0, i1), (0, i2), (9, 0), (9, 0)] (if v.1 = 9 then [(0, i2)] else v :: [(0, i2)]) m' Q) = Q1
      show zW E (d - 1) 141 0 [(2, 69)] [] m0 Q1
      refine zw_7 zr_141_0 rfl ?_
      refine zw_46r (s := 70) zr_141_1 rfl rfl rfl rfl ?_
      refine zw_push zr_141_4 ?_
      refine zw_48 (len := 826) zr_141_7 rfl rfl (by omega) (by omega) ?_
      intro x5 ex5
      have bx5 := ib_70_players hI0 (k := (822).toNat) (by omega)
      rw [← ex5] at bx5
      clear ex5
      refine zw_R zr_141_8 (by decide) zm_141 (v := (0, x5)) rfl ?_
      rw [← hQ1]
      show zW E (d) 198 9 [(2, 69), (0, i1), (0, i2), (9, 0), (9, 0)] [(0, x5), (0, i2)] m0 Q
      refine zw_41_3 zr_198_9 ?_ ?_
      · intro h6
        refine zw_3 zr_198_99 rfl ?_
        refine zw_R zr_198_100 (by decide) zm_198 (v := (0, i1)) rfl ?_
        rw [← hQ]; exact ⟨_, rfl, by omega, by omega, rfl⟩
      · intro h7
        refine zw_3 zr_198_12 rfl ?_
        refine zw_push zr_198_13 ?_
        refine zw_16 zr_198_14 (by omega) ?_
        refine zw_9 (L' := [(2, 69), (0, i1), (0, i2), (0, (i2 + 1)), (9, 0)]) zr_198_15 (Nat.le_of_ble_eq_true rfl) rfl ?_
        have lp16_10 : ∀ (nlp16_10 : Nat) (i8 i9 : Int), (-2147483648) ≤ i8 → i8 ≤ 2147483647 → 1 ≤ i9 → i9 ≤ 10 → (10 - i9).toNat < nlp16_10 → zW E (d) 198 16 [(2, 69), (0, i8), (0, i2), (0, i9), (9, 0)] [] m0 Q := by
          intro nlp16_10
          induction nlp16_10 with
          | zero =>
            intros
            exact absurd (by assumption : _ < 0) (Nat.not_lt_zero _)
          | succ nlp16_10 ihlp16_10 =>
            intro i8 i9 li8 ui8 li9 ui9 hmlp16_10
            refine zw_3 zr_198_16 rfl ?_
            refine zw_7 zr_198_17 rfl ?_
            refine zw_C zr_198_18 (Or.inl rfl) zm_141 rfl rfl ⟨Nat.le_of_ble_eq_true rfl, Nat.le_of_ble_eq_true rfl, Nat.le_of_ble_eq_true rfl, rfl, by decide⟩ (by omega) (P := (fun v m' => zW E (d) 198 21 [(2, 69), (0, i8), (0, i2), (0, i9), (9, 0)] (if v.1 = 9 then [(0, i9)] else v :: [(0, i9)]) m' Q)) ?_ (fun _ _ h => h)
            generalize hQ1 : (fun v m' => zW E (d) 198 21 [(2, 69), (0, i8), (0, i2), (0, i9), (9, 0)] (if v.1 = 9 then [(0, i9)] else v :: [(0, i9)]) m' Q) = Q1
            show zW E (d - 1) 141 0 [(2, 69)] [] m0 Q1
            refine zw_7 zr_141_0 rfl ?_
            refine zw_46r (s := 70) zr_141_1 rfl rfl rfl rfl ?_
            refine zw_push zr_141_4 ?_
            refine zw_48 (len := 826) zr_141_7 rfl rfl (by omega) (by omega) ?_
            intro x12 ex12
            have bx12 := ib_70_players hI0 (k := (822).toNat) (by omega)
            rw [← ex12] at bx12
            clear ex12
            refine zw_R zr_141_8 (by decide) zm_141 (v := (0, x12)) rfl ?_
            rw [← hQ1]
            show zW E (d) 198 21 [(2, 69), (0, i8), (0, i2), (0, i9), (9, 0)] [(0, x12), (0, i9)] m0 Q
            refine zw_41_3 zr_198_21 ?_ ?_
            · intro h13
              refine zw_15 (c := 1) (L' := [(2, 69), (0, i8), (0, (i2 + 1)), (0, i9), (9, 0)]) zr_198_93 rfl (by decide) (by omega) rfl ?_
              refine zw_42 zr_198_96 ?_
              exact zw_less (L := [(2, 69), (0, i8), (0, (i2 + 1)), (9, 0), (9, 0)]) ⟨Or.inr rfl, Or.inr rfl, Or.inr rfl, Or.inl rfl, Or.inl rfl, trivial⟩ (ihlp4_3 (i8) ((i2 + 1))  (by omega) (by omega) (by omega) (by omega) (by omega))
            · intro h14
              refine zw_3 zr_198_24 rfl ?_
              refine zw_push zr_198_25 ?_
              refine zw_16 zr_198_26 (by omega) ?_
              refine zw_10 (L' := [(2, 69), (0, i8), (0, i2), (0, i9), (0, (i2 + 1))]) zr_198_27 (Nat.le_of_ble_eq_true rfl) rfl ?_
              have lp29_17 : ∀ (nlp29_17 : Nat) (i15 i16 : Int), (-2147483648) ≤ i15 → i15 ≤ 2147483647 → 1 ≤ i16 → i16 ≤ 10 → (10 - i16).toNat < nlp29_17 → zW E (d) 198 29 [(2, 69), (0, i15), (0, i2), (0, i9), (0, i16)] [] m0 Q := by
                intro nlp29_17
                induction nlp29_17 with
                | zero =>
                  intros
                  exact absurd (by assumption : _ < 0) (Nat.not_lt_zero _)
                | succ nlp29_17 ihlp29_17 =>
                  intro i15 i16 li15 ui15 li16 ui16 hmlp29_17
                  refine zw_4 zr_198_29 rfl ?_
                  refine zw_7 zr_198_31 rfl ?_
                  refine zw_C zr_198_32 (Or.inl rfl) zm_141 rfl rfl ⟨Nat.le_of_ble_eq_true rfl, Nat.le_of_ble_eq_true rfl, Nat.le_of_ble_eq_true rfl, rfl, by decide⟩ (by omega) (P := (fun v m' => zW E (d) 198 35 [(2, 69), (0, i15), (0, i2), (0, i9), (0, i16)] (if v.1 = 9 then [(0, i16)] else v :: [(0, i16)]) m' Q)) ?_ (fun _ _ h => h)
                  generalize hQ1 : (fun v m' => zW E (d) 198 35 [(2, 69), (0, i15), (0, i2), (0, i9), (0, i16)] (if v.1 = 9 then [(0, i16)] else v :: [(0, i16)]) m' Q) = Q1
                  show zW E (d - 1) 141 0 [(2, 69)] [] m0 Q1
                  refine zw_7 zr_141_0 rfl ?_
                  refine zw_46r (s := 70) zr_141_1 rfl rfl rfl rfl ?_
                  refine zw_push zr_141_4 ?_
                  refine zw_48 (len := 826) zr_141_7 rfl rfl (by omega) (by omega) ?_
                  intro x19 ex19
                  have bx19 := ib_70_players hI0 (k := (822).toNat) (by omega)
                  rw [← ex19] at bx19
                  clear ex19
                  refine zw_R zr_141_8 (by decide) zm_141 (v := (0, x19)) rfl ?_
                  rw [← hQ1]
                  show zW E (d) 198 35 [(2, 69), (0, i15), (0, i2), (0, i9), (0, i16)] [(0, x19), (0, i16)] m0 Q
                  refine zw_41_3 zr_198_35 ?_ ?_
                  · intro h20
                    refine zw_15 (c := 1) (L' := [(2, 69), (0, i15), (0, i2), (0, (i9 + 1)), (0, i16)]) zr_198_87 rfl (by decide) (by omega) rfl ?_
                    refine zw_42 zr_198_90 ?_
                    exact zw_less (L := [(2, 69), (0, i15), (0, i2), (0, (i9 + 1)), (9, 0)]) ⟨Or.inr rfl, Or.inr rfl, Or.inr rfl, Or.inr rfl, Or.inl rfl, trivial⟩ (ihlp16_10 (i15) ((i9 + 1))  (by omega) (by omega) (by omega) (by omega) (by omega))
                  · intro h21
                    refine zw_3 zr_198_38 rfl ?_
                    refine zw_3 zr_198_39 rfl ?_
                    refine zw_4 zr_198_40 rfl ?_
                    refine zw_41_1 zr_198_42 ?_ ?_
                    · intro h22
                      refine zw_push zr_198_78 ?_
                      refine zw_16 zr_198_79 (by omega) ?_
                      refine zw_9 (L' := [(2, 69), (0, (i15 + 0)), (0, i2), (0, i9), (0, i16)]) zr_198_80 (Nat.le_of_ble_eq_true rfl) rfl ?_
                      refine zw_15 (c := 1) (L' := [(2, 69), (0, (i15 + 0)), (0, i2), (0, i9), (0, (i16 + 1))]) zr_198_81 rfl (by decide) (by omega) rfl ?_
                      refine zw_42 zr_198_84 ?_
                      exact zw_less (L := [(2, 69), (0, (i15 + 0)), (0, i2), (0, i9), (0, (i16 + 1))]) ⟨Or.inr rfl, Or.inr rfl, Or.inr rfl, Or.inr rfl, Or.inr rfl, trivial⟩ (ihlp29_17 ((i15 + 0)) ((i16 + 1))  (by omega) (by omega) (by omega) (by omega) (by omega))
                    · intro h23
                      refine zw_7 zr_198_45 rfl ?_
                      refine zw_3 zr_198_46 rfl ?_
                      refine zw_3 zr_198_47 rfl ?_
                      refine zw_C zr_198_48 (Or.inl rfl) zm_197 rfl rfl ⟨Nat.le_of_ble_eq_true rfl, Nat.le_of_ble_eq_true rfl, Nat.le_of_ble_eq_true rfl, rfl, by decide⟩ (by omega) (th_197 (d := d - 1) (by omega) hI0 (a0 := i2) (a1 := i9) (by omega) (by omega)) ?_
                      rintro _ _ ⟨r24, rfl, hr24a, hr24b, rfl⟩
                      show zW E (d) 198 51 [(2, 69), (0, i15), (0, i2), (0, i9), (0, i16)] [(0, r24), (0, i15)] m0 Q
                      refine zw_40_1 zr_198_51 ?_ ?_
                      · intro h25
                        refine zw_push zr_198_78 ?_
                        refine zw_16 zr_198_79 (by omega) ?_
                        refine zw_9 (L' := [(2, 69), (0, (i15 + 0)), (0, i2), (0, i9), (0, i16)]) zr_198_80 (Nat.le_of_ble_eq_true rfl) rfl ?_
                        refine zw_15 (c := 1) (L' := [(2, 69), (0, (i15 + 0)), (0, i2), (0, i9), (0, (i16 + 1))]) zr_198_81 rfl (by decide) (by omega) rfl ?_
                        refine zw_42 zr_198_84 ?_
                        exact zw_less (L := [(2, 69), (0, (i15 + 0)), (0, i2), (0, i9), (0, (i16 + 1))]) ⟨Or.inr rfl, Or.inr rfl, Or.inr rfl, Or.inr rfl, Or.inr rfl, trivial⟩ (ihlp29_17 ((i15 + 0)) ((i16 + 1))  (by omega) (by omega) (by omega) (by omega) (by omega))
                      · intro h26
                        refine zw_7 zr_198_54 rfl ?_
                        refine zw_3 zr_198_55 rfl ?_
                        refine zw_4 zr_198_56 rfl ?_
                        refine zw_C zr_198_58 (Or.inl rfl) zm_197 rfl rfl ⟨Nat.le_of_ble_eq_true rfl, Nat.le_of_ble_eq_true rfl, Nat.le_of_ble_eq_true rfl, rfl, by decide⟩ (by omega) (th_197 (d := d - 1) (by omega) hI0 (a0 := i9) (a1 := i16) (by omega) (by omega)) ?_
                        rintro _ _ ⟨r27, rfl, hr27a, hr27b, rfl⟩
                        show zW E (d) 198 61 [(2, 69), (0, i15), (0, i2), (0, i9), (0, i16)] [(0, r27), (0, i15)] m0 Q
                        refine zw_40_1 zr_198_61 ?_ ?_
                        · intro h28
                          refine zw_push zr_198_78 ?_
                          refine zw_16 zr_198_79 (by omega) ?_
                          refine zw_9 (L' := [(2, 69), (0, (i15 + 0)), (0, i2), (0, i9), (0, i16)]) zr_198_80 (Nat.le_of_ble_eq_true rfl) rfl ?_
                          refine zw_15 (c := 1) (L' := [(2, 69), (0, (i15 + 0)), (0, i2), (0, i9), (0, (i16 + 1))]) zr_198_81 rfl (by decide) (by omega) rfl ?_
                          refine zw_42 zr_198_84 ?_
                          exact zw_less (L := [(2, 69), (0, (i15 + 0)), (0, i2), (0, i9), (0, (i16 + 1))]) ⟨Or.inr rfl, Or.inr rfl, Or.inr rfl, Or.inr rfl, Or.inr rfl, trivial⟩ (ihlp29_17 ((i15 + 0)) ((i16 + 1))  (by omega) (by omega) (by omega) (by omega) (by omega))
                        · intro h29
                          refine zw_7 zr_198_64 rfl ?_
                          refine zw_4 zr_198_65 rfl ?_
                          refine zw_3 zr_198_67 rfl ?_
                          refine zw_C zr_198_68 (Or.inl rfl) zm_197 rfl rfl ⟨Nat.le_of_ble_eq_true rfl, Nat.le_of_ble_eq_true rfl, Nat.le_of_ble_eq_true rfl, rfl, by decide⟩ (by omega) (th_197 (d := d - 1) (by omega) hI0 (a0 := i16) (a1 := i2) (by omega) (by omega)) ?_
                          rintro _ _ ⟨r30, rfl, hr30a, hr30b, rfl⟩
                          show zW E (d) 198 71 [(2, 69), (0, i15), (0, i2), (0, i9), (0, i16)] [(0, r30), (0, i15)] m0 Q
                          refine zw_40_1 zr_198_71 ?_ ?_
                          · intro h31
                            refine zw_push zr_198_78 ?_
                            refine zw_16 zr_198_79 (by omega) ?_
                            refine zw_9 (L' := [(2, 69), (0, (i15 + 0)), (0, i2), (0, i9), (0, i16)]) zr_198_80 (Nat.le_of_ble_eq_true rfl) rfl ?_
                            refine zw_15 (c := 1) (L' := [(2, 69), (0, (i15 + 0)), (0, i2), (0, i9), (0, (i16 + 1))]) zr_198_81 rfl (by decide) (by omega) rfl ?_
                            refine zw_42 zr_198_84 ?_
                            exact zw_less (L := [(2, 69), (0, (i15 + 0)), (0, i2), (0, i9), (0, (i16 + 1))]) ⟨Or.inr rfl, Or.inr rfl, Or.inr rfl, Or.inr rfl, Or.inr rfl, trivial⟩ (ihlp29_17 ((i15 + 0)) ((i16 + 1))  (by omega) (by omega) (by omega) (by omega) (by omega))
                          · intro h32
                            refine zw_push zr_198_74 ?_
                            refine zw_42 zr_198_75 ?_
                            refine zw_16h zr_198_79 ?_
                            intro x33 hx33a hx33b
                            refine zw_9 (L' := [(2, 69), (0, x33), (0, i2), (0, i9), (0, i16)]) zr_198_80 (Nat.le_of_ble_eq_true rfl) rfl ?_
                            refine zw_15 (c := 1) (L' := [(2, 69), (0, x33), (0, i2), (0, i9), (0, (i16 + 1))]) zr_198_81 rfl (by decide) (by omega) rfl ?_
                            refine zw_42 zr_198_84 ?_
                            exact zw_less (L := [(2, 69), (0, x33), (0, i2), (0, i9), (0, (i16 + 1))]) ⟨Or.inr rfl, Or.inr rfl, Or.inr rfl, Or.inr rfl, Or.inr rfl, trivial⟩ (ihlp29_17 (x33) ((i16 + 1))  (by omega) (by omega) (by omega) (by omega) (by omega))
              exact lp29_17 _ (i8) ((i2 + 1))  (by omega) (by omega) (by omega) (by omega) (Nat.lt_succ_self _)
        exact lp16_10 _ (i1) ((i2 + 1))  (by omega) (by omega) (by omega) (by omega) (Nat.lt_succ_self _)
  exact lp4_3 _ (0) (0)  (by omega) (by omega) (by omega) (by omega) (Nat.lt_succ_self _)

abbrev W_4_68 : List (Nat × Nat) := [(68, 1000)]
set_option maxHeartbeats 8000000 in
theorem th_4_68 {E : zE} {d : Nat} {m0 : zM} (hd : 1 ≤ d) (hI0 : zInv m0) {a0 : Int} (ha0 : 0 ≤ a0 ∧ a0 ≤ 0) : zC E d 4 [(2, 68), (0, a0)] m0 (fun v m' => v = (9, 0) ∧ zInv m' ∧ zFr W_4_68 m0 m') := by
  have hF0 : zFr W_4_68 m0 m0 := zFr.rfl
  generalize hQ : (fun (v : zV) (m' : zM) => v = (9, 0) ∧ zInv m' ∧ zFr W_4_68 m0 m') = Q
  show zW E d 4 0 [(2, 68), (0, a0), (9, 0), (9, 0)] [] m0 Q
  refine zw_push zr_4_0 ?_
  refine zw_9 (L' := [(2, 68), (0, a0), (0, 0), (9, 0)]) zr_4_1 (Nat.le_of_ble_eq_true rfl) rfl ?_
  refine zw_7 zr_4_2 rfl ?_
  refine zw_101 (len := 11) zr_4_3 rfl rfl (by decide) ?_
  refine zw_9 (L' := [(2, 68), (0, a0), (0, 0), (0, 11)]) zr_4_4 (Nat.le_of_ble_eq_true rfl) rfl ?_
  have lp5_3 : ∀ (nlp5_3 : Nat) (i1 : Int) (m2 : zM), zInv m2 → zFr W_4_68 m0 m2 → 0 ≤ i1 → i1 ≤ 11 → (11 - i1).toNat < nlp5_3 → zW E (d) 4 5 [(2, 68), (0, a0), (0, i1), (0, 11)] [] m2 Q := by
    intro nlp5_3
    induction nlp5_3 with
    | zero =>
      intros
      exact absurd (by assumption : _ < 0) (Nat.not_lt_zero _)
    | succ nlp5_3 ihlp5_3 =>
      intro i1 m2 hIm2 hFm2 li1 ui1 hmlp5_3
      refine zw_3 zr_4_5 rfl ?_
      refine zw_3 zr_4_6 rfl ?_
      refine zw_41_3 zr_4_7 ?_ ?_
      · intro h5
        refine zw_R zr_4_20 (by decide) zm_4 (v := (9, 0)) rfl ?_
        rw [← hQ]; exact ⟨rfl, hIm2, hFm2⟩
      · intro h6
        refine zw_7 zr_4_10 rfl ?_
        refine zw_3 zr_4_11 rfl ?_
        refine zw_3 zr_4_12 rfl ?_
        refine zw_49 (len := 11) zr_4_13 rfl rfl (by omega) (by omega) ?_
        intro m7 em7
        have hIm7 : zInv m7 := by rw [em7]; exact hIm2.any rfl (by decide) (by decide)
        have hFm7 : zFr W_4_68 m0 m7 := by rw [em7]; exact hFm2.any rfl
        clear em7
        refine zw_15 (c := 1) (L' := [(2, 68), (0, a0), (0, (i1 + 1)), (0, 11)]) zr_4_14 rfl (by decide) (by omega) rfl ?_
        refine zw_42 zr_4_17 ?_
        exact zw_less (L := [(2, 68), (0, a0), (0, (i1 + 1)), (0, 11)]) ⟨Or.inr rfl, Or.inr rfl, Or.inr rfl, Or.inr rfl, trivial⟩ (ihlp5_3 ((i1 + 1)) m7 hIm7 hFm7   (by omega) (by omega) (by omega))
  exact lp5_3 _ (0) m0 hI0 hF0   (by omega) (by omega) (Nat.lt_succ_self _)

abbrev W_94 : List (Nat × Nat) := [(68, 1000)]
set_option maxHeartbeats 8000000 in
theorem th_94 {E : zE} {d : Nat} {m0 : zM} (hd : 2 ≤ d) (hI0 : zInv m0) : zC E d 94 [(2, 63)] m0 (fun v m' => v = (9, 0) ∧ zInv m' ∧ zFr W_94 m0 m') := by
  have hF0 : zFr W_94 m0 m0 := zFr.rfl
  generalize hQ : (fun (v : zV) (m' : zM) => v = (9, 0) ∧ zInv m' ∧ zFr W_94 m0 m') = Q
  show zW E d 94 0 [(2, 63), (9, 0), (9, 0)] [] m0 Q
  refine zw_7 zr_94_0 rfl ?_
  refine zw_46r (s := 68) zr_94_1 rfl rfl rfl rfl ?_
  refine zw_push zr_94_4 ?_
  refine zw_C zr_94_5 (Or.inr rfl) zm_4 rfl rfl ⟨Nat.le_of_ble_eq_true rfl, Nat.le_of_ble_eq_true rfl, Nat.le_of_ble_eq_true rfl, rfl, by decide⟩ (by omega) (th_4_68 (d := d - 1) (by omega) hI0 (a0 := 0) (by omega)) ?_
  rintro _ m1 ⟨rfl, hIm1, gm1⟩
  have hFm1 : zFr W_94 m0 m1 := hF0.trans gm1 rfl
  show zW E (d) 94 8 [(2, 63), (9, 0), (9, 0)] [] m1 Q
  refine zw_7 zr_94_8 rfl ?_
  refine zw_46r (s := 1) zr_94_9 rfl rfl rfl rfl ?_
  obtain ⟨f2, ef2⟩ : ∃ v, m1 1 0 = v := ⟨_, rfl⟩
  have bf2 := ib_1_0 hIm1
  rw [ef2] at bf2
  refine zw_46i zr_94_12 ef2 rfl rfl rfl ?_
  refine zw_push zr_94_15 ?_
  refine zw_17 zr_94_16 (by omega) ?_
  refine zw_9 (L' := [(2, 63), (0, (f2 - 1)), (9, 0)]) zr_94_17 (Nat.le_of_ble_eq_true rfl) rfl ?_
  have lp18_5 : ∀ (nlp18_5 : Nat) (i3 : Int) (m4 : zM), zInv m4 → zFr W_94 m0 m4 → m4 1 0 = f2 → (-1) ≤ i3 → i3 ≤ 9 → (i3 - (-1)).toNat < nlp18_5 → zW E (d) 94 18 [(2, 63), (0, i3), (9, 0)] [] m4 Q := by
    intro nlp18_5
    induction nlp18_5 with
    | zero =>
      intros
      exact absurd (by assumption : _ < 0) (Nat.not_lt_zero _)
    | succ nlp18_5 ihlp18_5 =>
      intro i3 m4 hIm4 hFm4 km4_1_0 li3 ui3 hmlp18_5
      refine zw_3 zr_94_18 rfl ?_
      refine zw_40_0 zr_94_19 ?_ ?_
      · intro h7
        refine zw_R zr_94_79 (by decide) zm_94 (v := (9, 0)) rfl ?_
        rw [← hQ]; exact ⟨rfl, hIm4, hFm4⟩
      · intro h8
        refine zw_7 zr_94_22 rfl ?_
        refine zw_46r (s := 68) zr_94_23 rfl rfl rfl rfl ?_
        refine zw_3 zr_94_26 rfl ?_
        refine zw_7 zr_94_27 rfl ?_
        refine zw_46r (s := 68) zr_94_28 rfl rfl rfl rfl ?_
        refine zw_3 zr_94_31 rfl ?_
        refine zw_push zr_94_32 ?_
        refine zw_16 zr_94_33 (by omega) ?_
        refine zw_48 (len := 11) zr_94_34 rfl rfl (by omega) (by omega) ?_
        intro x9 ex9
        clear ex9
        refine zw_49 (len := 11) zr_94_35 rfl rfl (by omega) (by omega) ?_
        intro m10 em10
        have hIm10 : zInv m10 := by rw [em10]; exact hIm4.any rfl (by decide) (by decide)
        have hFm10 : zFr W_94 m0 m10 := by rw [em10]; exact hFm4.any rfl
        have km10_1_0 : m10 1 0 = f2 := by rw [em10, zUp_ne (by omega)]; exact km4_1_0
        clear em10
        refine zw_push zr_94_36 ?_
        refine zw_9 (L' := [(2, 63), (0, i3), (0, 0)]) zr_94_37 (Nat.le_of_ble_eq_true rfl) rfl ?_
        have lp38_13 : ∀ (nlp38_13 : Nat) (i11 : Int) (m12 : zM), zInv m12 → zFr W_94 m0 m12 → m12 1 0 = f2 → 0 ≤ i11 → i11 ≤ 9 → (9 - i11).toNat < nlp38_13 → zW E (d) 94 38 [(2, 63), (0, i3), (0, i11)] [] m12 Q := by
          intro nlp38_13
          induction nlp38_13 with
          | zero =>
            intros
            exact absurd (by assumption : _ < 0) (Nat.not_lt_zero _)
          | succ nlp38_13 ihlp38_13 =>
            intro i11 m12 hIm12 hFm12 km12_1_0 li11 ui11 hmlp38_13
            refine zw_3 zr_94_38 rfl ?_
            refine zw_3 zr_94_39 rfl ?_
            refine zw_41_3 zr_94_40 ?_ ?_
            · intro h15
              refine zw_15 (c := (-1)) (L' := [(2, 63), (0, (i3 + (-1))), (0, i11)]) zr_94_73 rfl (by decide) (by omega) rfl ?_
              refine zw_42 zr_94_76 ?_
              exact zw_less (L := [(2, 63), (0, (i3 + (-1))), (9, 0)]) ⟨Or.inr rfl, Or.inr rfl, Or.inl rfl, trivial⟩ (ihlp18_5 ((i3 + (-1))) m12 hIm12 hFm12  km12_1_0 (by omega) (by omega) (by omega))
            · intro h16
              refine zw_7 zr_94_43 rfl ?_
              refine zw_46r (s := 68) zr_94_44 rfl rfl rfl rfl ?_
              refine zw_3 zr_94_47 rfl ?_
              refine zw_45 zr_94_48 ⟨rfl, rfl⟩ ?_
              refine zw_48 (len := 11) zr_94_49 rfl rfl (by omega) (by omega) ?_
              intro x17 ex17
              clear ex17
              refine zw_7 zr_94_50 rfl ?_
              refine zw_3 zr_94_51 rfl ?_
              refine zw_3 zr_94_52 rfl ?_
              refine zw_C zr_94_53 (Or.inl rfl) zm_91 rfl rfl ⟨Nat.le_of_ble_eq_true rfl, Nat.le_of_ble_eq_true rfl, Nat.le_of_ble_eq_true rfl, rfl, by decide⟩ (by omega) (P := (fun v m' => zW E (d) 94 56 [(2, 63), (0, i3), (0, i11)] (if v.1 = 9 then [(0, x17), (0, i3), (2, 68)] else v :: [(0, x17), (0, i3), (2, 68)]) m' Q)) ?_ (fun _ _ h => h)
              generalize hQ1 : (fun v m' => zW E (d) 94 56 [(2, 63), (0, i3), (0, i11)] (if v.1 = 9 then [(0, x17), (0, i3), (2, 68)] else v :: [(0, x17), (0, i3), (2, 68)]) m' Q) = Q1
              show zW E (d - 1) 91 0 [(2, 63), (0, i3), (0, i11)] [] m12 Q1
              refine zw_7 zr_91_0 rfl ?_
              refine zw_46r (s := 65) zr_91_1 rfl rfl rfl rfl ?_
              refine zw_3 zr_91_4 rfl ?_
              refine zw_push zr_91_5 ?_
              refine zw_18 zr_91_7 (by omega) ?_
              refine zw_3 zr_91_8 rfl ?_
              refine zw_16 zr_91_9 (by omega) ?_
              refine zw_48 (len := 100) zr_91_10 rfl rfl (by omega) (by omega) ?_
              intro x18 ex18
              clear ex18
              refine zw_R zr_91_11 (by decide) zm_91 (v := (0, x18)) rfl ?_
              rw [← hQ1]
              show zW E (d) 94 56 [(2, 63), (0, i3), (0, i11)] [(0, x18), (0, x17), (0, i3), (2, 68)] m12 Q
              refine zw_7 zr_94_56 rfl ?_
              refine zw_3 zr_94_57 rfl ?_
              refine zw_3 zr_94_58 rfl ?_
              refine zw_C zr_94_59 (Or.inl rfl) zm_91 rfl rfl ⟨Nat.le_of_ble_eq_true rfl, Nat.le_of_ble_eq_true rfl, Nat.le_of_ble_eq_true rfl, rfl, by decide⟩ (by omega) (P := (fun v m' => zW E (d) 94 62 [(2, 63), (0, i3), (0, i11)] (if v.1 = 9 then [(0, x18), (0, x17), (0, i3), (2, 68)] else v :: [(0, x18), (0, x17), (0, i3), (2, 68)]) m' Q)) ?_ (fun _ _ h => h)
              generalize hQ1 : (fun v m' => zW E (d) 94 62 [(2, 63), (0, i3), (0, i11)] (if v.1 = 9 then [(0, x18), (0, x17), (0, i3), (2, 68)] else v :: [(0, x18), (0, x17), (0, i3), (2, 68)]) m' Q) = Q1
              show zW E (d - 1) 91 0 [(2, 63), (0, i11), (0, i3)] [] m12 Q1
              refine zw_7 zr_91_0 rfl ?_
              refine zw_46r (s := 65) zr_91_1 rfl rfl rfl rfl ?_
              refine zw_3 zr_91_4 rfl ?_
              refine zw_push zr_91_5 ?_
              refine zw_18 zr_91_7 (by omega) ?_
              refine zw_3 zr_91_8 rfl ?_
              refine zw_16 zr_91_9 (by omega) ?_
              refine zw_48 (len := 100) zr_91_10 rfl rfl (by omega) (by omega) ?_
              intro x19 ex19
              clear ex19
              refine zw_R zr_91_11 (by decide) zm_91 (v := (0, x19)) rfl ?_
              rw [← hQ1]
              show zW E (d) 94 62 [(2, 63), (0, i3), (0, i11)] [(0, x19), (0, x18), (0, x17), (0, i3), (2, 68)] m12 Q
              refine zw_120 zr_94_62 (Nat.le_of_ble_eq_true rfl) (by omega) (by omega) (by omega) ?_
              intro x20 hx20a hx20b hx20c
              refine zw_16h zr_94_65 ?_
              intro x21 hx21a hx21b
              refine zw_49 (len := 11) zr_94_66 rfl rfl (by omega) (by omega) ?_
              intro m22 em22
              have hIm22 : zInv m22 := by rw [em22]; exact hIm12.any rfl (by decide) (by decide)
              have hFm22 : zFr W_94 m0 m22 := by rw [em22]; exact hFm12.any rfl
              have km22_1_0 : m22 1 0 = f2 := by rw [em22, zUp_ne (by omega)]; exact km12_1_0
              clear em22
              refine zw_15 (c := 1) (L' := [(2, 63), (0, i3), (0, (i11 + 1))]) zr_94_67 rfl (by decide) (by omega) rfl ?_
              refine zw_42 zr_94_70 ?_
              exact zw_less (L := [(2, 63), (0, i3), (0, (i11 + 1))]) ⟨Or.inr rfl, Or.inr rfl, Or.inr rfl, trivial⟩ (ihlp38_13 ((i11 + 1)) m22 hIm22 hFm22  km22_1_0 (by omega) (by omega) (by omega))
        exact lp38_13 _ (0) m10 hIm10 hFm10  km10_1_0 (by omega) (by omega) (Nat.lt_succ_self _)
  exact lp18_5 _ ((f2 - 1)) m1 hIm1 hFm1  ef2 (by omega) (by omega) (Nat.lt_succ_self _)

abbrev W_95 : List (Nat × Nat) := [(67, 1000)]
set_option maxHeartbeats 8000000 in
theorem th_95 {E : zE} {d : Nat} {m0 : zM} (hd : 2 ≤ d) (hI0 : zInv m0) {a0 : Int} (ha0 : 0 ≤ a0 ∧ a0 ≤ 9) : zC E d 95 [(2, 63), (0, a0)] m0 (fun v m' => v = (9, 0) ∧ zInv m' ∧ zFr W_95 m0 m') := by
  have hF0 : zFr W_95 m0 m0 := zFr.rfl
  generalize hQ : (fun (v : zV) (m' : zM) => v = (9, 0) ∧ zInv m' ∧ zFr W_95 m0 m') = Q
  show zW E d 95 0 [(2, 63), (0, a0), (9, 0)] [] m0 Q
  refine zw_push zr_95_0 ?_
  refine zw_9 (L' := [(2, 63), (0, a0), (0, 0)]) zr_95_1 (Nat.le_of_ble_eq_true rfl) rfl ?_
  have lp2_3 : ∀ (nlp2_3 : Nat) (i1 : Int) (m2 : zM), zInv m2 → zFr W_95 m0 m2 → 0 ≤ i1 → i1 ≤ 3 → (3 - i1).toNat < nlp2_3 → zW E (d) 95 2 [(2, 63), (0, a0), (0, i1)] [] m2 Q := by
    intro nlp2_3
    induction nlp2_3 with
    | zero =>
      intros
      exact absurd (by assumption : _ < 0) (Nat.not_lt_zero _)
    | succ nlp2_3 ihlp2_3 =>
      intro i1 m2 hIm2 hFm2 li1 ui1 hmlp2_3
      refine zw_3 zr_95_2 rfl ?_
      refine zw_push zr_95_3 ?_
      refine zw_41_3 zr_95_4 ?_ ?_
      · intro h5
        refine zw_push zr_95_24 ?_
        refine zw_9 (L' := [(2, 63), (0, a0), (0, 0)]) zr_95_25 (Nat.le_of_ble_eq_true rfl) rfl ?_
        have lp26_8 : ∀ (nlp26_8 : Nat) (i6 : Int) (m7 : zM), zInv m7 → zFr W_95 m0 m7 → 0 ≤ i6 → i6 ≤ 9 → (9 - i6).toNat < nlp26_8 → zW E (d) 95 26 [(2, 63), (0, a0), (0, i6)] [] m7 Q := by
          intro nlp26_8
          induction nlp26_8 with
          | zero =>
            intros
            exact absurd (by assumption : _ < 0) (Nat.not_lt_zero _)
          | succ nlp26_8 ihlp26_8 =>
            intro i6 m7 hIm7 hFm7 li6 ui6 hmlp26_8
            refine zw_3 zr_95_26 rfl ?_
            refine zw_3 zr_95_27 rfl ?_
            refine zw_41_3 zr_95_28 ?_ ?_
            · intro h10
              refine zw_R zr_95_93 (by decide) zm_95 (v := (9, 0)) rfl ?_
              rw [← hQ]; exact ⟨rfl, hIm7, hFm7⟩
            · intro h11
              refine zw_7 zr_95_31 rfl ?_
              refine zw_46r (s := 67) zr_95_32 rfl rfl rfl rfl ?_
              refine zw_3 zr_95_35 rfl ?_
              refine zw_push zr_95_36 ?_
              refine zw_18 zr_95_37 (by omega) ?_
              refine zw_7 zr_95_38 rfl ?_
              refine zw_46r (s := 66) zr_95_39 rfl rfl rfl rfl ?_
              refine zw_3 zr_95_42 rfl ?_
              refine zw_48 (len := 10) zr_95_43 rfl rfl (by omega) (by omega) ?_
              intro x12 ex12
              have bx12 := ib_66 hIm7 (k := (i6).toNat) (by omega)
              rw [← ex12] at bx12
              clear ex12
              refine zw_push zr_95_44 ?_
              refine zw_16 zr_95_45 (by omega) ?_
              refine zw_push zr_95_46 ?_
              refine zw_20 zr_95_47 (by omega) (by omega) (by omega) (by omega) ?_
              refine zw_16 zr_95_48 (by omega) ?_
              refine zw_45 zr_95_49 ⟨rfl, rfl⟩ ?_
              refine zw_48 (len := 30) zr_95_50 rfl rfl (by omega) (by omega) ?_
              intro x13 ex13
              clear ex13
              refine zw_7 zr_95_51 rfl ?_
              refine zw_3 zr_95_52 rfl ?_
              refine zw_3 zr_95_53 rfl ?_
              refine zw_C zr_95_54 (Or.inl rfl) zm_91 rfl rfl ⟨Nat.le_of_ble_eq_true rfl, Nat.le_of_ble_eq_true rfl, Nat.le_of_ble_eq_true rfl, rfl, by decide⟩ (by omega) (P := (fun v m' => zW E (d) 95 57 [(2, 63), (0, a0), (0, i6)] (if v.1 = 9 then [(0, x13), (0, ((a0 * 3) + ((x12 + 1) % 3))), (2, 67)] else v :: [(0, x13), (0, ((a0 * 3) + ((x12 + 1) % 3))), (2, 67)]) m' Q)) ?_ (fun _ _ h => h)
              generalize hQ1 : (fun v m' => zW E (d) 95 57 [(2, 63), (0, a0), (0, i6)] (if v.1 = 9 then [(0, x13), (0, ((a0 * 3) + ((x12 + 1) % 3))), (2, 67)] else v :: [(0, x13), (0, ((a0 * 3) + ((x12 + 1) % 3))), (2, 67)]) m' Q) = Q1
              show zW E (d - 1) 91 0 [(2, 63), (0, i6), (0, a0)] [] m7 Q1
              refine zw_7 zr_91_0 rfl ?_
              refine zw_46r (s := 65) zr_91_1 rfl rfl rfl rfl ?_
              refine zw_3 zr_91_4 rfl ?_
              refine zw_push zr_91_5 ?_
              refine zw_18 zr_91_7 (by omega) ?_
              refine zw_3 zr_91_8 rfl ?_
              refine zw_16 zr_91_9 (by omega) ?_
              refine zw_48 (len := 100) zr_91_10 rfl rfl (by omega) (by omega) ?_
              intro x14 ex14
              clear ex14
              refine zw_R zr_91_11 (by decide) zm_91 (v := (0, x14)) rfl ?_
              rw [← hQ1]
              show zW E (d) 95 57 [(2, 63), (0, a0), (0, i6)] [(0, x14), (0, x13), (0, ((a0 * 3) + ((x12 + 1) % 3))), (2, 67)] m7 Q
              refine zw_16h zr_95_57 ?_
              intro x15 hx15a hx15b
              refine zw_49 (len := 30) zr_95_58 rfl rfl (by omega) (by omega) ?_
              intro m16 em16
              have hIm16 : zInv m16 := by rw [em16]; exact hIm7.any rfl (by decide) (by decide)
              have hFm16 : zFr W_95 m0 m16 := by rw [em16]; exact hFm7.any rfl
              clear em16
              refine zw_7 zr_95_59 rfl ?_
              refine zw_46r (s := 67) zr_95_60 rfl rfl rfl rfl ?_
              refine zw_3 zr_95_63 rfl ?_
              refine zw_push zr_95_64 ?_
              refine zw_18 zr_95_65 (by omega) ?_
              refine zw_7 zr_95_66 rfl ?_
              refine zw_46r (s := 66) zr_95_67 rfl rfl rfl rfl ?_
              refine zw_3 zr_95_70 rfl ?_
              refine zw_48 (len := 10) zr_95_71 rfl rfl (by omega) (by omega) ?_
              intro x17 ex17
              have bx17 := ib_66 hIm16 (k := (i6).toNat) (by omega)
              rw [← ex17] at bx17
              clear ex17
              refine zw_push zr_95_72 ?_
              refine zw_16 zr_95_73 (by omega) ?_
              refine zw_push zr_95_74 ?_
              refine zw_20 zr_95_75 (by omega) (by omega) (by omega) (by omega) ?_
              refine zw_16 zr_95_76 (by omega) ?_
              refine zw_45 zr_95_77 ⟨rfl, rfl⟩ ?_
              refine zw_48 (len := 30) zr_95_78 rfl rfl (by omega) (by omega) ?_
              intro x18 ex18
              clear ex18
              refine zw_7 zr_95_79 rfl ?_
              refine zw_3 zr_95_80 rfl ?_
              refine zw_3 zr_95_81 rfl ?_
              refine zw_C zr_95_82 (Or.inl rfl) zm_91 rfl rfl ⟨Nat.le_of_ble_eq_true rfl, Nat.le_of_ble_eq_true rfl, Nat.le_of_ble_eq_true rfl, rfl, by decide⟩ (by omega) (P := (fun v m' => zW E (d) 95 85 [(2, 63), (0, a0), (0, i6)] (if v.1 = 9 then [(0, x18), (0, ((a0 * 3) + ((x17 + 2) % 3))), (2, 67)] else v :: [(0, x18), (0, ((a0 * 3) + ((x17 + 2) % 3))), (2, 67)]) m' Q)) ?_ (fun _ _ h => h)
              generalize hQ1 : (fun v m' => zW E (d) 95 85 [(2, 63), (0, a0), (0, i6)] (if v.1 = 9 then [(0, x18), (0, ((a0 * 3) + ((x17 + 2) % 3))), (2, 67)] else v :: [(0, x18), (0, ((a0 * 3) + ((x17 + 2) % 3))), (2, 67)]) m' Q) = Q1
              show zW E (d - 1) 91 0 [(2, 63), (0, a0), (0, i6)] [] m16 Q1
              refine zw_7 zr_91_0 rfl ?_
              refine zw_46r (s := 65) zr_91_1 rfl rfl rfl rfl ?_
              refine zw_3 zr_91_4 rfl ?_
              refine zw_push zr_91_5 ?_
              refine zw_18 zr_91_7 (by omega) ?_
              refine zw_3 zr_91_8 rfl ?_
              refine zw_16 zr_91_9 (by omega) ?_
              refine zw_48 (len := 100) zr_91_10 rfl rfl (by omega) (by omega) ?_
              intro x19 ex19
              clear ex19
              refine zw_R zr_91_11 (by decide) zm_91 (v := (0, x19)) rfl ?_
              rw [← hQ1]
              show zW E (d) 95 85 [(2, 63), (0, a0), (0, i6)] [(0, x19), (0, x18), (0, ((a0 * 3) + ((x17 + 2) % 3))), (2, 67)] m16 Q
              refine zw_16h zr_95_85 ?_
              intro x20 hx20a hx20b
              refine zw_49 (len := 30) zr_95_86 rfl rfl (by omega) (by omega) ?_
              intro m21 em21
              have hIm21 : zInv m21 := by rw [em21]; exact hIm16.any rfl (by decide) (by decide)
              have hFm21 : zFr W_95 m0 m21 := by rw [em21]; exact hFm16.any rfl
              clear em21
              refine zw_15 (c := 1) (L' := [(2, 63), (0, a0), (0, (i6 + 1))]) zr_95_87 rfl (by decide) (by omega) rfl ?_
              refine zw_42 zr_95_90 ?_
              exact zw_less (L := [(2, 63), (0, a0), (0, (i6 + 1))]) ⟨Or.inr rfl, Or.inr rfl, Or.inr rfl, trivial⟩ (ihlp26_8 ((i6 + 1)) m21 hIm21 hFm21   (by omega) (by omega) (by omega))
        exact lp26_8 _ (0) m2 hIm2 hFm2   (by omega) (by omega) (Nat.lt_succ_self _)
      · intro h22
        refine zw_7 zr_95_7 rfl ?_
        refine zw_46r (s := 67) zr_95_8 rfl rfl rfl rfl ?_
        refine zw_3 zr_95_11 rfl ?_
        refine zw_push zr_95_12 ?_
        refine zw_18 zr_95_13 (by omega) ?_
        refine zw_3 zr_95_14 rfl ?_
        refine zw_16 zr_95_15 (by omega) ?_
        refine zw_push zr_95_16 ?_
        refine zw_49 (len := 30) zr_95_17 rfl rfl (by omega) (by omega) ?_
        intro m23 em23
        have hIm23 : zInv m23 := by rw [em23]; exact hIm2.any rfl (by decide) (by decide)
        have hFm23 : zFr W_95 m0 m23 := by rw [em23]; exact hFm2.any rfl
        clear em23
        refine zw_15 (c := 1) (L' := [(2, 63), (0, a0), (0, (i1 + 1))]) zr_95_18 rfl (by decide) (by omega) rfl ?_
        refine zw_42 zr_95_21 ?_
        exact zw_less (L := [(2, 63), (0, a0), (0, (i1 + 1))]) ⟨Or.inr rfl, Or.inr rfl, Or.inr rfl, trivial⟩ (ihlp2_3 ((i1 + 1)) m23 hIm23 hFm23   (by omega) (by omega) (by omega))
  exact lp2_3 _ (0) m0 hI0 hF0   (by omega) (by omega) (Nat.lt_succ_self _)

abbrev W_96 : List (Nat × Nat) := [(63, 0), (64, 1000), (66, 1000), (67, 1000)]
set_option maxHeartbeats 8000000 in
theorem th_96 {E : zE} {d : Nat} {m0 : zM} (hd : 50 ≤ d) (hI0 : zInv m0) {a0 : Int} {a1 : Int} (ha0 : 0 ≤ a0 ∧ a0 ≤ 10) (ha1 : (-2147483648) ≤ a1 ∧ a1 ≤ 2147483647) : zC E d 96 [(2, 63), (0, a0), (0, a1)] m0 (fun v m' => v = (9, 0) ∧ zInv m' ∧ zFr W_96 m0 m') := by
  have hF0 : zFr W_96 m0 m0 := zFr.rfl
  generalize hQ : (fun (v : zV) (m' : zM) => v = (9, 0) ∧ zInv m' ∧ zFr W_96 m0 m') = Q
  show zW E d 96 0 [(2, 63), (0, a0), (0, a1), (9, 0), (9, 0), (9, 0)] [] m0 Q
  refine zw_3 zr_96_0 rfl ?_
  refine zw_7 zr_96_1 rfl ?_
  refine zw_46r (s := 1) zr_96_2 rfl rfl rfl rfl ?_
  obtain ⟨f1, ef1⟩ : ∃ v, m0 1 0 = v := ⟨_, rfl⟩
  have bf1 := ib_1_0 hI0
  rw [ef1] at bf1
  refine zw_46i zr_96_5 ef1 rfl rfl rfl ?_
  refine zw_41_0 zr_96_8 ?_ ?_
  · intro h2
    refine zw_7 zr_96_40 rfl ?_
    refine zw_3 zr_96_41 rfl ?_
    refine zw_C zr_96_42 (Or.inl rfl) zm_95 rfl rfl ⟨Nat.le_of_ble_eq_true rfl, Nat.le_of_ble_eq_true rfl, Nat.le_of_ble_eq_true rfl, rfl, by decide⟩ (by omega) (th_95 (d := d - 1) (by omega) hI0 (a0 := a0) (by omega)) ?_
    rintro _ m3 ⟨rfl, hIm3, gm3⟩
    have hFm3 : zFr W_96 m0 m3 := hF0.trans gm3 rfl
    have km3_1_0 : m3 1 0 = f1 := (gm3 1 0 rfl).trans ef1
    show zW E (d) 96 45 [(2, 63), (0, a0), (0, a1), (9, 0), (9, 0), (9, 0)] [] m3 Q
    refine zw_3 zr_96_45 rfl ?_
    refine zw_40_4 zr_96_46 ?_ ?_
    · intro h4
      refine zw_push zr_96_53 ?_
      refine zw_9 (L' := [(2, 63), (0, a0), (0, a1), (0, 3), (9, 0), (9, 0)]) zr_96_54 (Nat.le_of_ble_eq_true rfl) rfl ?_
      refine zw_push zr_96_55 ?_
      refine zw_10 (L' := [(2, 63), (0, a0), (0, a1), (0, 3), (0, 0), (9, 0)]) zr_96_56 (Nat.le_of_ble_eq_true rfl) rfl ?_
      have lp58_7 : ∀ (nlp58_7 : Nat) (i5 : Int) (m6 : zM), zInv m6 → zFr W_96 m0 m6 → m6 1 0 = f1 → 0 ≤ i5 → i5 ≤ 3 → (3 - i5).toNat < nlp58_7 → zW E (d) 96 58 [(2, 63), (0, a0), (0, a1), (0, 3), (0, i5), (9, 0)] [] m6 Q := by
        intro nlp58_7
        induction nlp58_7 with
        | zero =>
          intros
          exact absurd (by assumption : _ < 0) (Nat.not_lt_zero _)
        | succ nlp58_7 ihlp58_7 =>
          intro i5 m6 hIm6 hFm6 km6_1_0 li5 ui5 hmlp58_7
          refine zw_4 zr_96_58 rfl ?_
          refine zw_3 zr_96_60 rfl ?_
          refine zw_41_3 zr_96_61 ?_ ?_
          · intro h9
            refine zw_R zr_96_120 (by decide) zm_96 (v := (9, 0)) rfl ?_
            rw [← hQ]; exact ⟨rfl, hIm6, hFm6⟩
          · intro h10
            refine zw_3 zr_96_64 rfl ?_
            refine zw_7 zr_96_65 rfl ?_
            refine zw_46r (s := 67) zr_96_66 rfl rfl rfl rfl ?_
            refine zw_3 zr_96_69 rfl ?_
            refine zw_push zr_96_70 ?_
            refine zw_18 zr_96_71 (by omega) ?_
            refine zw_4 zr_96_72 rfl ?_
            refine zw_16 zr_96_74 (by omega) ?_
            refine zw_48 (len := 30) zr_96_75 rfl rfl (by omega) (by omega) ?_
            intro x11 ex11
            clear ex11
            refine zw_16h zr_96_76 ?_
            intro x12 hx12a hx12b
            refine zw_10 (L' := [(2, 63), (0, a0), (0, a1), (0, 3), (0, i5), (0, x12)]) zr_96_77 (Nat.le_of_ble_eq_true rfl) rfl ?_
            refine zw_4 zr_96_79 rfl ?_
            refine zw_7 zr_96_81 rfl ?_
            refine zw_46r (s := 68) zr_96_82 rfl rfl rfl rfl ?_
            refine zw_3 zr_96_85 rfl ?_
            refine zw_push zr_96_86 ?_
            refine zw_16 zr_96_87 (by omega) ?_
            refine zw_48 (len := 11) zr_96_88 rfl rfl (by omega) (by omega) ?_
            intro x13 ex13
            clear ex13
            refine zw_16h zr_96_89 ?_
            intro x14 hx14a hx14b
            refine zw_7 zr_96_90 rfl ?_
            obtain ⟨f15, ef15⟩ : ∃ v, m6 63 0 = v := ⟨_, rfl⟩
            refine zw_46i zr_96_91 ef15 rfl rfl rfl ?_
            refine zw_41_5 zr_96_94 ?_ ?_
            · intro h16
              refine zw_15 (c := 1) (L' := [(2, 63), (0, a0), (0, a1), (0, 3), (0, (i5 + 1)), (0, x12)]) zr_96_114 rfl (by decide) (by omega) rfl ?_
              refine zw_42 zr_96_117 ?_
              exact zw_less (L := [(2, 63), (0, a0), (0, a1), (0, 3), (0, (i5 + 1)), (9, 0)]) ⟨Or.inr rfl, Or.inr rfl, Or.inr rfl, Or.inr rfl, Or.inr rfl, Or.inl rfl, trivial⟩ (ihlp58_7 ((i5 + 1)) m6 hIm6 hFm6  km6_1_0 (by omega) (by omega) (by omega))
            · intro h17
              refine zw_7 zr_96_97 rfl ?_
              refine zw_46r (s := 66) zr_96_98 rfl rfl rfl rfl ?_
              refine zw_3 zr_96_101 rfl ?_
              refine zw_4 zr_96_102 rfl ?_
              refine zw_49 (len := 10) zr_96_104 rfl rfl (by omega) (by omega) ?_
              intro m18 em18
              have hIm18 : zInv m18 := by rw [em18]; exact iu_66 hIm6 (by omega)
              have hFm18 : zFr W_96 m0 m18 := by rw [em18]; exact hFm6.any rfl
              have km18_1_0 : m18 1 0 = f1 := by rw [em18, zUp_ne (by omega)]; exact km6_1_0
              have km18_63_0 : m18 63 0 = f15 := by rw [em18, zUp_ne (by omega)]; exact ef15
              clear em18
              refine zw_7 zr_96_105 rfl ?_
              refine zw_3 zr_96_106 rfl ?_
              refine zw_push zr_96_107 ?_
              refine zw_16 zr_96_108 (by omega) ?_
              refine zw_4 zr_96_109 rfl ?_
              refine zw_C zr_96_111 (Or.inl rfl) zm_96 rfl rfl ⟨Nat.le_of_ble_eq_true rfl, Nat.le_of_ble_eq_true rfl, Nat.le_of_ble_eq_true rfl, rfl, by decide⟩ (by omega) (th_96 (d := d - 1) (by omega) hIm18 (a0 := (a0 + 1)) (a1 := x12) (by omega) (by omega)) ?_
              rintro _ m19 ⟨rfl, hIm19, gm19⟩
              have hFm19 : zFr W_96 m0 m19 := hFm18.trans gm19 rfl
              have km19_1_0 : m19 1 0 = f1 := (gm19 1 0 rfl).trans km18_1_0
              show zW E (d) 96 114 [(2, 63), (0, a0), (0, a1), (0, 3), (0, i5), (0, x12)] [] m19 Q
              refine zw_15 (c := 1) (L' := [(2, 63), (0, a0), (0, a1), (0, 3), (0, (i5 + 1)), (0, x12)]) zr_96_114 rfl (by decide) (by omega) rfl ?_
              refine zw_42 zr_96_117 ?_
              exact zw_less (L := [(2, 63), (0, a0), (0, a1), (0, 3), (0, (i5 + 1)), (9, 0)]) ⟨Or.inr rfl, Or.inr rfl, Or.inr rfl, Or.inr rfl, Or.inr rfl, Or.inl rfl, trivial⟩ (ihlp58_7 ((i5 + 1)) m19 hIm19 hFm19  km19_1_0 (by omega) (by omega) (by omega))
      exact lp58_7 _ (0) m3 hIm3 hFm3  km3_1_0 (by omega) (by omega) (Nat.lt_succ_self _)
    · intro h20
      refine zw_push zr_96_49 ?_
      refine zw_42 zr_96_50 ?_
      refine zw_9 (L' := [(2, 63), (0, a0), (0, a1), (0, 1), (9, 0), (9, 0)]) zr_96_54 (Nat.le_of_ble_eq_true rfl) rfl ?_
      refine zw_push zr_96_55 ?_
      refine zw_10 (L' := [(2, 63), (0, a0), (0, a1), (0, 1), (0, 0), (9, 0)]) zr_96_56 (Nat.le_of_ble_eq_true rfl) rfl ?_
      have lp58_23 : ∀ (nlp58_23 : Nat) (i21 : Int) (m22 : zM), zInv m22 → zFr W_96 m0 m22 → m22 1 0 = f1 → 0 ≤ i21 → i21 ≤ 3 → (3 - i21).toNat < nlp58_23 → zW E (d) 96 58 [(2, 63), (0, a0), (0, a1), (0, 1), (0, i21), (9, 0)] [] m22 Q := by
        intro nlp58_23
        induction nlp58_23 with
        | zero =>
          intros
          exact absurd (by assumption : _ < 0) (Nat.not_lt_zero _)
        | succ nlp58_23 ihlp58_23 =>
          intro i21 m22 hIm22 hFm22 km22_1_0 li21 ui21 hmlp58_23
          refine zw_4 zr_96_58 rfl ?_
          refine zw_3 zr_96_60 rfl ?_
          refine zw_41_3 zr_96_61 ?_ ?_
          · intro h25
            refine zw_R zr_96_120 (by decide) zm_96 (v := (9, 0)) rfl ?_
            rw [← hQ]; exact ⟨rfl, hIm22, hFm22⟩
          · intro h26
            refine zw_3 zr_96_64 rfl ?_
            refine zw_7 zr_96_65 rfl ?_
            refine zw_46r (s := 67) zr_96_66 rfl rfl rfl rfl ?_
            refine zw_3 zr_96_69 rfl ?_
            refine zw_push zr_96_70 ?_
            refine zw_18 zr_96_71 (by omega) ?_
            refine zw_4 zr_96_72 rfl ?_
            refine zw_16 zr_96_74 (by omega) ?_
            refine zw_48 (len := 30) zr_96_75 rfl rfl (by omega) (by omega) ?_
            intro x27 ex27
            clear ex27
            refine zw_16h zr_96_76 ?_
            intro x28 hx28a hx28b
            refine zw_10 (L' := [(2, 63), (0, a0), (0, a1), (0, 1), (0, i21), (0, x28)]) zr_96_77 (Nat.le_of_ble_eq_true rfl) rfl ?_
            refine zw_4 zr_96_79 rfl ?_
            refine zw_7 zr_96_81 rfl ?_
            refine zw_46r (s := 68) zr_96_82 rfl rfl rfl rfl ?_
            refine zw_3 zr_96_85 rfl ?_
            refine zw_push zr_96_86 ?_
            refine zw_16 zr_96_87 (by omega) ?_
            refine zw_48 (len := 11) zr_96_88 rfl rfl (by omega) (by omega) ?_
            intro x29 ex29
            clear ex29
            refine zw_16h zr_96_89 ?_
            intro x30 hx30a hx30b
            refine zw_7 zr_96_90 rfl ?_
            obtain ⟨f31, ef31⟩ : ∃ v, m22 63 0 = v := ⟨_, rfl⟩
            refine zw_46i zr_96_91 ef31 rfl rfl rfl ?_
            refine zw_41_5 zr_96_94 ?_ ?_
            · intro h32
              refine zw_15 (c := 1) (L' := [(2, 63), (0, a0), (0, a1), (0, 1), (0, (i21 + 1)), (0, x28)]) zr_96_114 rfl (by decide) (by omega) rfl ?_
              refine zw_42 zr_96_117 ?_
              exact zw_less (L := [(2, 63), (0, a0), (0, a1), (0, 1), (0, (i21 + 1)), (9, 0)]) ⟨Or.inr rfl, Or.inr rfl, Or.inr rfl, Or.inr rfl, Or.inr rfl, Or.inl rfl, trivial⟩ (ihlp58_23 ((i21 + 1)) m22 hIm22 hFm22  km22_1_0 (by omega) (by omega) (by omega))
            · intro h33
              refine zw_7 zr_96_97 rfl ?_
              refine zw_46r (s := 66) zr_96_98 rfl rfl rfl rfl ?_
              refine zw_3 zr_96_101 rfl ?_
              refine zw_4 zr_96_102 rfl ?_
              refine zw_49 (len := 10) zr_96_104 rfl rfl (by omega) (by omega) ?_
              intro m34 em34
              have hIm34 : zInv m34 := by rw [em34]; exact iu_66 hIm22 (by omega)
              have hFm34 : zFr W_96 m0 m34 := by rw [em34]; exact hFm22.any rfl
              have km34_1_0 : m34 1 0 = f1 := by rw [em34, zUp_ne (by omega)]; exact km22_1_0
              have km34_63_0 : m34 63 0 = f31 := by rw [em34, zUp_ne (by omega)]; exact ef31
              clear em34
              refine zw_7 zr_96_105 rfl ?_
              refine zw_3 zr_96_106 rfl ?_
              refine zw_push zr_96_107 ?_
              refine zw_16 zr_96_108 (by omega) ?_
              refine zw_4 zr_96_109 rfl ?_
              refine zw_C zr_96_111 (Or.inl rfl) zm_96 rfl rfl ⟨Nat.le_of_ble_eq_true rfl, Nat.le_of_ble_eq_true rfl, Nat.le_of_ble_eq_true rfl, rfl, by decide⟩ (by omega) (th_96 (d := d - 1) (by omega) hIm34 (a0 := (a0 + 1)) (a1 := x28) (by omega) (by omega)) ?_
              rintro _ m35 ⟨rfl, hIm35, gm35⟩
              have hFm35 : zFr W_96 m0 m35 := hFm34.trans gm35 rfl
              have km35_1_0 : m35 1 0 = f1 := (gm35 1 0 rfl).trans km34_1_0
              show zW E (d) 96 114 [(2, 63), (0, a0), (0, a1), (0, 1), (0, i21), (0, x28)] [] m35 Q
              refine zw_15 (c := 1) (L' := [(2, 63), (0, a0), (0, a1), (0, 1), (0, (i21 + 1)), (0, x28)]) zr_96_114 rfl (by decide) (by omega) rfl ?_
              refine zw_42 zr_96_117 ?_
              exact zw_less (L := [(2, 63), (0, a0), (0, a1), (0, 1), (0, (i21 + 1)), (9, 0)]) ⟨Or.inr rfl, Or.inr rfl, Or.inr rfl, Or.inr rfl, Or.inr rfl, Or.inl rfl, trivial⟩ (ihlp58_23 ((i21 + 1)) m35 hIm35 hFm35  km35_1_0 (by omega) (by omega) (by omega))
      exact lp58_23 _ (0) m3 hIm3 hFm3  km3_1_0 (by omega) (by omega) (Nat.lt_succ_self _)
  · intro h36
    refine zw_3 zr_96_11 rfl ?_
    refine zw_7 zr_96_12 rfl ?_
    obtain ⟨f37, ef37⟩ : ∃ v, m0 63 0 = v := ⟨_, rfl⟩
    refine zw_46i zr_96_13 ef37 rfl rfl rfl ?_
    refine zw_41_5 zr_96_16 ?_ ?_
    · intro h38
      refine zw_R zr_96_39 (by decide) zm_96 (v := (9, 0)) rfl ?_
      rw [← hQ]; exact ⟨rfl, hI0, hF0⟩
    · intro h39
      refine zw_7 zr_96_19 rfl ?_
      refine zw_3 zr_96_20 rfl ?_
      refine zw_47 zr_96_21 rfl ⟨rfl, by decide, rfl⟩ ?_
      intro m40 em40
      have hIm40 : zInv m40 := by rw [em40]; exact hI0.any rfl (by decide) (by decide)
      have hFm40 : zFr W_96 m0 m40 := by rw [em40]; exact hF0.up rfl
      have km40_1_0 : m40 1 0 = f1 := by rw [em40, zUp_ne (by omega)]; exact ef1
      have km40_63_0 : m40 63 0 = a1 := by rw [em40]; exact zUp_eq _ _ _ _
      clear em40
      refine zw_7 zr_96_24 rfl ?_
      refine zw_46r (s := 66) zr_96_25 rfl rfl rfl rfl ?_
      refine zw_push zr_96_28 ?_
      refine zw_7 zr_96_29 rfl ?_
      refine zw_46r (s := 64) zr_96_30 rfl rfl rfl rfl ?_
      refine zw_push zr_96_33 ?_
      refine zw_push zr_96_34 ?_
      refine zw_114 (l1 := 10) (l2 := 10) zr_96_36 rfl rfl rfl rfl (by decide) (Nat.le_of_ble_eq_true rfl) (by omega) (by omega) ?_
      intro m41 em41
      have hIm41 : zInv m41 := by rw [em41]; exact zInv.cp0 hIm40 (fun _ => rfl) (by decide) (by decide)
      have hFm41 : zFr W_96 m0 m41 := by rw [em41]; exact hFm40.cp rfl
      have km41_1_0 : m41 1 0 = f1 := by rw [em41, zCp_ne (by decide)]; exact km40_1_0
      have km41_63_0 : m41 63 0 = a1 := by rw [em41, zCp_ne (by decide)]; exact km40_63_0
      clear em41
      refine zw_R zr_96_39 (by decide) zm_96 (v := (9, 0)) rfl ?_
      rw [← hQ]; exact ⟨rfl, hIm41, hFm41⟩
