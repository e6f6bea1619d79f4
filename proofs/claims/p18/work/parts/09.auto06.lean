abbrev W_183 : List (Nat × Nat) := [(80, 1000)]
set_option maxHeartbeats 8000000 in
theorem th_183 {E : zE} {d : Nat} {m0 : zM} {a0 : Int} {a1 : Int} {a2 : Int} {F80 : Nat → Int} (hd : 1 ≤ d) (hI0 : zInv m0) (hG80 : m0 80 = F80) (ha0 : 0 ≤ a0 ∧ a0 ≤ 9) (ha1 : 0 ≤ a1 ∧ a1 ≤ 9) (ha2 : (-1001) ≤ a2 ∧ a2 ≤ 2000) : zC E d 183 [(2, 69), (0, a0), (0, a1), (0, a2)] m0 (fun v m' => v = (9, 0) ∧ zInv m' ∧ zFr W_183 m0 m' ∧ (m' 80 = bnD F80 (10 * a1 + a0).toNat a2)) := by
  have hF0 : zFr W_183 m0 m0 := zFr.rfl
  generalize hQ : (fun (v : zV) (m' : zM) => v = (9, 0) ∧ zInv m' ∧ zFr W_183 m0 m' ∧ (m' 80 = bnD F80 (10 * a1 + a0).toNat a2)) = Q
  show zW E d 183 0 [(2, 69), (0, a0), (0, a1), (0, a2), (9, 0)] [] m0 Q
  refine zw_push zr_183_0 ?_
  refine zw_3 zr_183_2 rfl ?_
  refine zw_18 zr_183_3 (by omega) ?_
  refine zw_3 zr_183_4 rfl ?_
  refine zw_16 zr_183_5 (by omega) ?_
  refine zw_10 (L' := [(2, 69), (0, a0), (0, a1), (0, a2), (0, ((10 * a1) + a0))]) zr_183_6 (Nat.le_of_ble_eq_true rfl) rfl ?_
  refine zw_7 zr_183_8 rfl ?_
  refine zw_46r (s := 80) zr_183_9 rfl rfl rfl rfl ?_
  refine zw_4 zr_183_12 rfl ?_
  refine zw_3 zr_183_14 rfl ?_
  refine zw_7 zr_183_15 rfl ?_
  refine zw_46r (s := 80) zr_183_16 rfl rfl rfl rfl ?_
  refine zw_4 zr_183_19 rfl ?_
  refine zw_48 (c := 80) (len := 100) zr_183_21 rfl rfl (by omega) (by omega) ?_
  intro x1 ex1
  have bx1 := ib_80 hI0 (k := (((10 * a1) + a0)).toNat) (by omega)
  rw [← ex1] at bx1
  have qx1 : x1 = F80 (((10 * a1) + a0)).toNat := by rw [← hG80]; exact ex1
  refine zw_41_3 zr_183_22 ?_ ?_
  · intro h2
    refine zw_7 zr_183_29 rfl ?_
    refine zw_46r (s := 80) zr_183_30 rfl rfl rfl rfl ?_
    refine zw_4 zr_183_33 rfl ?_
    refine zw_48k (c := 80) (len := 100) zr_183_35 rfl rfl (by omega) (by omega) rfl ex1.symm ?_
    refine zw_49 (c := 80) (len := 100) zr_183_36 rfl rfl (by omega) (by omega) ?_
    intro m3 em3
    have hIm3 : zInv m3 := by rw [em3]; exact iu_80 hI0 (by omega)
    have hFm3 : zFr W_183 m0 m3 := by rw [em3]; exact hF0.any rfl
    have fm3_80 : m3 80 = zPt F80 ((((10 * a1) + a0)).toNat) x1 := by rw [em3]; exact (zUp_ff (m := m0)).trans (congrArg (fun q => zPt q ((((10 * a1) + a0)).toNat) x1) hG80)
    clear em3
    refine zw_R zr_183_37 (by decide) zm_183 (v := (9, 0)) rfl ?_
    rw [← hQ]; exact ⟨rfl, hIm3, hFm3, by rw [fm3_80]; unfold bnD; first | rw [if_pos (by omega)] | rw [if_neg (by omega), ← qx1]⟩
  · intro h5
    refine zw_3 zr_183_25 rfl ?_
    refine zw_42 zr_183_26 ?_
    refine zw_49 (c := 80) (len := 100) zr_183_36 rfl rfl (by omega) (by omega) ?_
    intro m6 em6
    have hIm6 : zInv m6 := by rw [em6]; exact iu_80 hI0 (by omega)
    have hFm6 : zFr W_183 m0 m6 := by rw [em6]; exact hF0.any rfl
    have fm6_80 : m6 80 = zPt F80 ((((10 * a1) + a0)).toNat) a2 := by rw [em6]; exact (zUp_ff (m := m0)).trans (congrArg (fun q => zPt q ((((10 * a1) + a0)).toNat) a2) hG80)
    clear em6
    refine zw_R zr_183_37 (by decide) zm_183 (v := (9, 0)) rfl ?_
    rw [← hQ]; exact ⟨rfl, hIm6, hFm6, by rw [fm6_80]; unfold bnD; first | rw [if_pos (by omega)] | rw [if_neg (by omega), ← qx1]⟩

abbrev W_184 : List (Nat × Nat) := [(80, 1000)]
set_option maxHeartbeats 8000000 in
theorem th_184 {E : zE} {d : Nat} {m0 : zM} {a0 : Int} {a1 : Int} {a2 : Int} {g0 : Int} {F70 : Nat → Int} {F80 : Nat → Int} (hd : 3 ≤ d) (hI0 : zInv m0) (hg0 : m0 70 823 = g0) (hG70 : m0 70 = F70) (hG80 : m0 80 = F80) (ha0 : (-1) ≤ a0 ∧ a0 ≤ 59) (ha1 : (-1) ≤ a1 ∧ a1 ≤ 59) (ha2 : (-1) ≤ a2 ∧ a2 ≤ 59) (hp0 : zNe F70 g0) : zC E d 184 [(2, 69), (0, a0), (0, a1), (0, a2)] m0 (fun v m' => ∃ r : Int, v = (0, r) ∧ 0 ≤ r ∧ r ≤ 1 ∧ zInv m' ∧ zFr W_184 m0 m' ∧ (zFw (zEr F70 g0 a0 a1 a2) (m' 80) r)) := by
  have hF0 : zFr W_184 m0 m0 := zFr.rfl
  have bg0 : 0 ≤ m0 70 823 ∧ m0 70 823 ≤ 60 := ib_70_meetings hI0 (by omega)
  rw [hg0] at bg0
  generalize hQ : (fun (v : zV) (m' : zM) => ∃ r : Int, v = (0, r) ∧ 0 ≤ r ∧ r ≤ 1 ∧ zInv m' ∧ zFr W_184 m0 m' ∧ (zFw (zEr F70 g0 a0 a1 a2) (m' 80) r)) = Q
  show zW E d 184 0 [(2, 69), (0, a0), (0, a1), (0, a2), (9, 0), (9, 0), (9, 0), (9, 0), (9, 0), (9, 0), (9, 0)] [] m0 Q
  refine zw_push zr_184_0 ?_
  refine zw_10 (L' := [(2, 69), (0, a0), (0, a1), (0, a2), (0, 0), (9, 0), (9, 0), (9, 0), (9, 0), (9, 0), (9, 0)]) zr_184_1 (Nat.le_of_ble_eq_true rfl) rfl ?_
  have lp3_4 : ∀ (nlp3_4 : Nat) (i1 : Int) (f3 : Nat → Int) (m2 : zM), zInv m2 → zFr W_184 m0 m2 → m2 70 823 = g0 → m2 70 = F70 → m2 80 = f3 → 0 ≤ i1 → i1 ≤ 100 → (zFz f3 i1) → (100 - i1).toNat < nlp3_4 → zW E (d) 184 3 [(2, 69), (0, a0), (0, a1), (0, a2), (0, i1), (9, 0), (9, 0), (9, 0), (9, 0), (9, 0), (9, 0)] [] m2 Q := by
    intro nlp3_4
    induction nlp3_4 with
    | zero =>
      intros
      exact absurd (by assumption : _ < 0) (Nat.not_lt_zero _)
    | succ nlp3_4 ihlp3_4 =>
      intro i1 f3 m2 hIm2 hFm2 km2_70_823 fm2_70 fm2_80 li1 ui1 hv0lp3_4 hmlp3_4
      refine zw_4 zr_184_3 rfl ?_
      refine zw_push zr_184_5 ?_
      refine zw_41_3 zr_184_7 ?_ ?_
      · intro h6
        refine zw_push zr_184_42 ?_
        refine zw_10 (L' := [(2, 69), (0, a0), (0, a1), (0, a2), (0, 0), (9, 0), (9, 0), (9, 0), (9, 0), (9, 0), (9, 0)]) zr_184_43 (Nat.le_of_ble_eq_true rfl) rfl ?_
        have lp45_10 : ∀ (nlp45_10 : Nat) (i7 : Int) (f9 : Nat → Int) (m8 : zM), zInv m8 → zFr W_184 m0 m8 → m8 70 823 = g0 → m8 70 = F70 → m8 80 = f9 → 0 ≤ i7 → i7 ≤ 60 → (zFm F70 g0 a0 a1 a2 f9 i7) → (i7 ≤ g0) → (60 - i7).toNat < nlp45_10 → zW E (d) 184 45 [(2, 69), (0, a0), (0, a1), (0, a2), (0, i7), (9, 0), (9, 0), (9, 0), (9, 0), (9, 0), (9, 0)] [] m8 Q := by
          intro nlp45_10
          induction nlp45_10 with
          | zero =>
            intros
            exact absurd (by assumption : _ < 0) (Nat.not_lt_zero _)
          | succ nlp45_10 ihlp45_10 =>
            intro i7 f9 m8 hIm8 hFm8 km8_70_823 fm8_70 fm8_80 li7 ui7 hv0lp45_10 hv1lp45_10 hmlp45_10
            have z12 : F70 ((90 + (6 * i7)) + 0).toNat = F70 (90 + 6 * (i7).toNat) := congrArg F70 (by omega)
            have z13 : F70 ((90 + (6 * i7)) + 1).toNat = F70 (91 + 6 * (i7).toNat) := congrArg F70 (by omega)
            have z14 : F70 ((90 + (6 * i7)) + 2).toNat = F70 (92 + 6 * (i7).toNat) := congrArg F70 (by omega)
            have z15 : F70 ((90 + (6 * i7)) + 3).toNat = F70 (93 + 6 * (i7).toNat) := congrArg F70 (by omega)
            have z16 : F70 ((90 + (6 * i7)) + 4).toNat = F70 (94 + 6 * (i7).toNat) := congrArg F70 (by omega)
            have z17 : F70 ((90 + (6 * i7)) + 5).toNat = F70 (95 + 6 * (i7).toNat) := congrArg F70 (by omega)
            refine zw_4 zr_184_45 rfl ?_
            refine zw_7 zr_184_47 rfl ?_
            refine zw_C zr_184_48 (Or.inl rfl) zm_142 rfl rfl ⟨Nat.le_of_ble_eq_true rfl, Nat.le_of_ble_eq_true rfl, Nat.le_of_ble_eq_true rfl, rfl, by decide⟩ (by omega) (P := (fun v m' => zW E (d) 184 51 [(2, 69), (0, a0), (0, a1), (0, a2), (0, i7), (9, 0), (9, 0), (9, 0), (9, 0), (9, 0), (9, 0)] (if v.1 = 9 then [(0, i7)] else v :: [(0, i7)]) m' Q)) ?_ (fun _ _ h => h)
            generalize hQ1 : (fun v m' => zW E (d) 184 51 [(2, 69), (0, a0), (0, a1), (0, a2), (0, i7), (9, 0), (9, 0), (9, 0), (9, 0), (9, 0), (9, 0)] (if v.1 = 9 then [(0, i7)] else v :: [(0, i7)]) m' Q) = Q1
            show zW E (d - 1) 142 0 [(2, 69)] [] m8 Q1
            refine zw_7 zr_142_0 rfl ?_
            refine zw_46r (s := 70) zr_142_1 rfl rfl rfl rfl ?_
            refine zw_push zr_142_4 ?_
            refine zw_48k (c := 70) (len := 826) zr_142_7 rfl rfl (by omega) (by omega) (show (823 : Int).toNat = 823 by omega) km8_70_823 ?_
            have qg0 : g0 = F70 823 := by rw [← fm8_70]; exact (km8_70_823).symm
            refine zw_R zr_142_8 (by decide) zm_142 (v := (0, g0)) rfl ?_
            rw [← hQ1]
            show zW E (d) 184 51 [(2, 69), (0, a0), (0, a1), (0, a2), (0, i7), (9, 0), (9, 0), (9, 0), (9, 0), (9, 0), (9, 0)] [(0, g0), (0, i7)] m8 Q
            refine zw_41_3 zr_184_51 ?_ ?_
            · intro h18
              refine zw_push zr_184_245 ?_
              refine zw_10 (L' := [(2, 69), (0, a0), (0, a1), (0, a2), (0, 0), (9, 0), (9, 0), (9, 0), (9, 0), (9, 0), (9, 0)]) zr_184_246 (Nat.le_of_ble_eq_true rfl) rfl ?_
              have lp248_22 : ∀ (nlp248_22 : Nat) (i19 : Int) (f21 : Nat → Int) (m20 : zM), zInv m20 → zFr W_184 m0 m20 → m20 70 823 = g0 → m20 70 = F70 → m20 80 = f21 → 0 ≤ i19 → i19 ≤ 10 → (zFo (zEr F70 g0 a0 a1 a2) f21 (i19).toNat) → (10 - i19).toNat < nlp248_22 → zW E (d) 184 248 [(2, 69), (0, a0), (0, a1), (0, a2), (0, i19), (9, 0), (9, 0), (9, 0), (9, 0), (9, 0), (9, 0)] [] m20 Q := by
                intro nlp248_22
                induction nlp248_22 with
                | zero =>
                  intros
                  exact absurd (by assumption : _ < 0) (Nat.not_lt_zero _)
                | succ nlp248_22 ihlp248_22 =>
                  intro i19 f21 m20 hIm20 hFm20 km20_70_823 fm20_70 fm20_80 li19 ui19 hv0lp248_22 hmlp248_22
                  refine zw_4 zr_184_248 rfl ?_
                  refine zw_push zr_184_250 ?_
                  refine zw_41_3 zr_184_252 ?_ ?_
                  · intro h24
                    refine zw_push zr_184_450 ?_
                    refine zw_R zr_184_451 (by decide) zm_184 (v := (0, 1)) (zRetB (by omega)) ?_
                    rw [← hQ]; exact ⟨_, rfl, by omega, by omega, hIm20, hFm20, by rw [fm20_80]; first | exact Or.inr ⟨rfl, zFe_n zz (by omega) qzz (by omega)⟩ | exact Or.inl ⟨rfl, by have z := hv0lp248_22; rw [show (i19).toNat = 10 by omega] at z; exact z⟩⟩
                  · intro h26
                    refine zw_push zr_184_255 ?_
                    refine zw_10 (L' := [(2, 69), (0, a0), (0, a1), (0, a2), (0, i19), (0, 0), (9, 0), (9, 0), (9, 0), (9, 0), (9, 0)]) zr_184_256 (Nat.le_of_ble_eq_true rfl) rfl ?_
                    have lp258_30 : ∀ (nlp258_30 : Nat) (i27 : Int) (f29 : Nat → Int) (m28 : zM), zInv m28 → zFr W_184 m0 m28 → m28 70 823 = g0 → m28 70 = F70 → m28 80 = f29 → 0 ≤ i27 → i27 ≤ 10 → (zF3 (zEr F70 g0 a0 a1 a2) f29 i19 i27 0) → (10 - i27).toNat < nlp258_30 → zW E (d) 184 258 [(2, 69), (0, a0), (0, a1), (0, a2), (0, i19), (0, i27), (9, 0), (9, 0), (9, 0), (9, 0), (9, 0)] [] m28 Q := by
                      intro nlp258_30
                      induction nlp258_30 with
                      | zero =>
                        intros
                        exact absurd (by assumption : _ < 0) (Nat.not_lt_zero _)
                      | succ nlp258_30 ihlp258_30 =>
                        intro i27 f29 m28 hIm28 hFm28 km28_70_823 fm28_70 fm28_80 li27 ui27 hv0lp258_30 hmlp258_30
                        refine zw_4 zr_184_258 rfl ?_
                        refine zw_push zr_184_260 ?_
                        refine zw_41_3 zr_184_262 ?_ ?_
                        · intro h32
                          refine zw_push zr_184_413 ?_
                          refine zw_10 (L' := [(2, 69), (0, a0), (0, a1), (0, a2), (0, i19), (0, 0), (9, 0), (9, 0), (9, 0), (9, 0), (9, 0)]) zr_184_414 (Nat.le_of_ble_eq_true rfl) rfl ?_
                          have lp416_34 : ∀ (nlp416_34 : Nat) (i33 : Int), 0 ≤ i33 → i33 ≤ 10 → (zFe (zEr F70 g0 a0 a1 a2) f29 ((i19).toNat + 1) i33) → (10 - i33).toNat < nlp416_34 → zW E (d) 184 416 [(2, 69), (0, a0), (0, a1), (0, a2), (0, i19), (0, i33), (9, 0), (9, 0), (9, 0), (9, 0), (9, 0)] [] m28 Q := by
                            intro nlp416_34
                            induction nlp416_34 with
                            | zero =>
                              intros
                              exact absurd (by assumption : _ < 0) (Nat.not_lt_zero _)
                            | succ nlp416_34 ihlp416_34 =>
                              intro i33 li33 ui33 hv0lp416_34 hmlp416_34
                              refine zw_4 zr_184_416 rfl ?_
                              refine zw_push zr_184_418 ?_
                              refine zw_41_3 zr_184_420 ?_ ?_
                              · intro h36
                                refine zw_15 (c := 1) (L' := [(2, 69), (0, a0), (0, a1), (0, a2), (0, (i19 + 1)), (0, i33), (9, 0), (9, 0), (9, 0), (9, 0), (9, 0)]) zr_184_444 rfl (by decide) (by omega) rfl ?_
                                refine zw_42 zr_184_447 ?_
                                exact zw_less (L := [(2, 69), (0, a0), (0, a1), (0, a2), (0, (i19 + 1)), (9, 0), (9, 0), (9, 0), (9, 0), (9, 0), (9, 0)]) ⟨Or.inr rfl, Or.inr rfl, Or.inr rfl, Or.inr rfl, Or.inr rfl, Or.inl rfl, Or.inl rfl, Or.inl rfl, Or.inl rfl, Or.inl rfl, Or.inl rfl, trivial⟩ (ihlp248_22 ((i19 + 1)) (f29) m28 hIm28 hFm28  km28_70_823 fm28_70 fm28_80 (by omega) (by omega) (zFe_t hv0lp416_34 (by omega) (by omega)) (by omega))
                              · intro h38
                                refine zw_7 zr_184_423 rfl ?_
                                refine zw_46r (s := 80) zr_184_424 rfl rfl rfl rfl ?_
                                refine zw_push zr_184_427 ?_
                                refine zw_4 zr_184_429 rfl ?_
                                refine zw_18 zr_184_431 (by omega) ?_
                                refine zw_48 (c := 80) (len := 100) zr_184_432 rfl rfl (by omega) (by omega) ?_
                                intro x39 ex39
                                have bx39 := ib_80 hIm28 (k := ((11 * i33)).toNat) (by omega)
                                rw [← ex39] at bx39
                                have qx39 : x39 = f29 ((11 * i33)).toNat := by rw [← fm28_80]; exact ex39
                                clear ex39
                                refine zw_40_3 zr_184_433 ?_ ?_
                                · intro h40
                                  refine zw_15 (c := 1) (L' := [(2, 69), (0, a0), (0, a1), (0, a2), (0, i19), (0, (i33 + 1)), (9, 0), (9, 0), (9, 0), (9, 0), (9, 0)]) zr_184_438 rfl (by decide) (by omega) rfl ?_
                                  refine zw_42 zr_184_441 ?_
                                  exact zw_less (L := [(2, 69), (0, a0), (0, a1), (0, a2), (0, i19), (0, (i33 + 1)), (9, 0), (9, 0), (9, 0), (9, 0), (9, 0)]) ⟨Or.inr rfl, Or.inr rfl, Or.inr rfl, Or.inr rfl, Or.inr rfl, Or.inr rfl, Or.inl rfl, Or.inl rfl, Or.inl rfl, Or.inl rfl, Or.inl rfl, trivial⟩ (ihlp416_34 ((i33 + 1))  (by omega) (by omega) (zFe_s hv0lp416_34 (by omega) qx39 (by omega)) (by omega))
                                · intro h42
                                  refine zw_push zr_184_436 ?_
                                  refine zw_R zr_184_437 (by decide) zm_184 (v := (0, 0)) (zRetB (by omega)) ?_
                                  rw [← hQ]; exact ⟨_, rfl, by omega, by omega, hIm28, hFm28, by rw [fm28_80]; first | exact Or.inr ⟨rfl, zFe_n hv0lp416_34 (by omega) qx39 (by omega)⟩ | exact Or.inl ⟨rfl, by have z := hv0lp248_22; rw [show (i19).toNat = 10 by omega] at z; exact z⟩⟩
                          exact lp416_34 _ (0)  (by omega) (by omega) (zF3_e (zEr_v (fun i hi => ⟨by rw [← hG70]; exact ib_70_m1 hI0 (by omega), by rw [← hG70]; exact ib_70_m2 hI0 (by omega)⟩)) hv0lp258_30 (by omega) (by omega)) (Nat.lt_succ_self _)
                        · intro h45
                          refine zw_push zr_184_265 ?_
                          refine zw_10 (L' := [(2, 69), (0, a0), (0, a1), (0, a2), (0, i19), (0, i27), (0, 0), (9, 0), (9, 0), (9, 0), (9, 0)]) zr_184_266 (Nat.le_of_ble_eq_true rfl) rfl ?_
                          have lp268_49 : ∀ (nlp268_49 : Nat) (i46 : Int) (f48 : Nat → Int) (m47 : zM), zInv m47 → zFr W_184 m0 m47 → m47 70 823 = g0 → m47 70 = F70 → m47 80 = f48 → 0 ≤ i46 → i46 ≤ 10 → (zF3 (zEr F70 g0 a0 a1 a2) f48 i19 i27 i46) → (10 - i46).toNat < nlp268_49 → zW E (d) 184 268 [(2, 69), (0, a0), (0, a1), (0, a2), (0, i19), (0, i27), (0, i46), (9, 0), (9, 0), (9, 0), (9, 0)] [] m47 Q := by
                            intro nlp268_49
                            induction nlp268_49 with
                            | zero =>
                              intros
                              exact absurd (by assumption : _ < 0) (Nat.not_lt_zero _)
                            | succ nlp268_49 ihlp268_49 =>
                              intro i46 f48 m47 hIm47 hFm47 km47_70_823 fm47_70 fm47_80 li46 ui46 hv0lp268_49 hmlp268_49
                              refine zw_4 zr_184_268 rfl ?_
                              refine zw_push zr_184_270 ?_
                              refine zw_41_3 zr_184_272 ?_ ?_
                              · intro h51
                                refine zw_15 (c := 1) (L' := [(2, 69), (0, a0), (0, a1), (0, a2), (0, i19), (0, (i27 + 1)), (0, i46), (9, 0), (9, 0), (9, 0), (9, 0)]) zr_184_407 rfl (by decide) (by omega) rfl ?_
                                refine zw_42 zr_184_410 ?_
                                exact zw_less (L := [(2, 69), (0, a0), (0, a1), (0, a2), (0, i19), (0, (i27 + 1)), (9, 0), (9, 0), (9, 0), (9, 0), (9, 0)]) ⟨Or.inr rfl, Or.inr rfl, Or.inr rfl, Or.inr rfl, Or.inr rfl, Or.inr rfl, Or.inl rfl, Or.inl rfl, Or.inl rfl, Or.inl rfl, Or.inl rfl, trivial⟩ (ihlp258_30 ((i27 + 1)) (f48) m47 hIm47 hFm47  km47_70_823 fm47_70 fm47_80 (by omega) (by omega) (zF3_n hv0lp268_49 (by omega) (by omega)) (by omega))
                              · intro h53
                                refine zw_7 zr_184_275 rfl ?_
                                refine zw_46r (s := 80) zr_184_276 rfl rfl rfl rfl ?_
                                refine zw_push zr_184_279 ?_
                                refine zw_4 zr_184_281 rfl ?_
                                refine zw_18 zr_184_283 (by omega) ?_
                                refine zw_4 zr_184_284 rfl ?_
                                refine zw_16 zr_184_286 (by omega) ?_
                                refine zw_48 (c := 80) (len := 100) zr_184_287 rfl rfl (by omega) (by omega) ?_
                                intro x54 ex54
                                have bx54 := ib_80 hIm47 (k := (((10 * i27) + i19)).toNat) (by omega)
                                rw [← ex54] at bx54
                                have qx54 : x54 = f48 (((10 * i27) + i19)).toNat := by rw [← fm47_80]; exact ex54
                                refine zw_7 zr_184_288 rfl ?_
                                refine zw_46r (s := 80) zr_184_289 rfl rfl rfl rfl ?_
                                refine zw_push zr_184_292 ?_
                                refine zw_4 zr_184_294 rfl ?_
                                refine zw_18 zr_184_296 (by omega) ?_
                                refine zw_4 zr_184_297 rfl ?_
                                refine zw_16 zr_184_299 (by omega) ?_
                                refine zw_48 (c := 80) (len := 100) zr_184_300 rfl rfl (by omega) (by omega) ?_
                                intro x55 ex55
                                have bx55 := ib_80 hIm47 (k := (((10 * i19) + i46)).toNat) (by omega)
                                rw [← ex55] at bx55
                                have qx55 : x55 = f48 (((10 * i19) + i46)).toNat := by rw [← fm47_80]; exact ex55
                                have hx := qx54
                                have hy := qx55
                                have z58 := zF3_b hv0lp268_49 hx hy (by omega)
                                refine zw_16 zr_184_301 (by omega) ?_
                                refine zw_10 (L' := [(2, 69), (0, a0), (0, a1), (0, a2), (0, i19), (0, i27), (0, i46), (0, (x54 + x55)), (9, 0), (9, 0), (9, 0)]) zr_184_302 (Nat.le_of_ble_eq_true rfl) rfl ?_
                                refine zw_7 zr_184_304 rfl ?_
                                refine zw_46r (s := 80) zr_184_305 rfl rfl rfl rfl ?_
                                refine zw_push zr_184_308 ?_
                                refine zw_4 zr_184_310 rfl ?_
                                refine zw_18 zr_184_312 (by omega) ?_
                                refine zw_4 zr_184_313 rfl ?_
                                refine zw_16 zr_184_315 (by omega) ?_
                                refine zw_48k (c := 80) (len := 100) zr_184_316 rfl rfl (by omega) (by omega) rfl ex54.symm ?_
                                refine zw_push zr_184_317 ?_
                                refine zw_41_3 zr_184_319 ?_ ?_
                                · intro h59
                                  refine zw_push zr_184_344 ?_
                                  refine zw_10 (L' := [(2, 69), (0, a0), (0, a1), (0, a2), (0, i19), (0, i27), (0, i46), (0, (x54 + x55)), (0, 0), (9, 0), (9, 0)]) zr_184_345 (Nat.le_of_ble_eq_true rfl) rfl ?_
                                  refine zw_7 zr_184_347 rfl ?_
                                  refine zw_46r (s := 80) zr_184_348 rfl rfl rfl rfl ?_
                                  refine zw_push zr_184_351 ?_
                                  refine zw_4 zr_184_353 rfl ?_
                                  refine zw_18 zr_184_355 (by omega) ?_
                                  refine zw_4 zr_184_356 rfl ?_
                                  refine zw_16 zr_184_358 (by omega) ?_
                                  refine zw_4 zr_184_359 rfl ?_
                                  refine zw_40_1 zr_184_361 ?_ ?_
                                  · intro h60
                                    refine zw_7 zr_184_387 rfl ?_
                                    refine zw_46r (s := 80) zr_184_388 rfl rfl rfl rfl ?_
                                    refine zw_push zr_184_391 ?_
                                    refine zw_4 zr_184_393 rfl ?_
                                    refine zw_18 zr_184_395 (by omega) ?_
                                    refine zw_4 zr_184_396 rfl ?_
                                    refine zw_16 zr_184_398 (by omega) ?_
                                    refine zw_48 (c := 80) (len := 100) zr_184_399 rfl rfl (by omega) (by omega) ?_
                                    intro x61 ex61
                                    have bx61 := ib_80 hIm47 (k := (((10 * i27) + i46)).toNat) (by omega)
                                    rw [← ex61] at bx61
                                    have qx61 : x61 = f48 (((10 * i27) + i46)).toNat := by rw [← fm47_80]; exact ex61
                                    clear ex61
                                    have hw := qx61
                                    refine zw_49 (c := 80) (len := 100) zr_184_400 rfl rfl (by omega) (by omega) ?_
                                    intro m62 em62
                                    have hIm62 : zInv m62 := by rw [em62]; exact iu_80 hIm47 (by omega)
                                    have hFm62 : zFr W_184 m0 m62 := by rw [em62]; exact hFm47.any rfl
                                    have km62_70_823 : m62 70 823 = g0 := by rw [em62, zUp_ne (by omega)]; exact km47_70_823
                                    have fm62_70 : m62 70 = F70 := by rw [em62, zUp_fn (by decide)]; exact fm47_70
                                    have fm62_80 : m62 80 = zPt f48 ((((10 * i27) + i46)).toNat) x61 := by rw [em62]; exact (zUp_ff (m := m47)).trans (congrArg (fun q => zPt q ((((10 * i27) + i46)).toNat) x61) fm47_80)
                                    clear em62
                                    refine zw_15 (c := 1) (L' := [(2, 69), (0, a0), (0, a1), (0, a2), (0, i19), (0, i27), (0, (i46 + 1)), (0, (x54 + x55)), (0, 0), (9, 0), (9, 0)]) zr_184_401 rfl (by decide) (by omega) rfl ?_
                                    refine zw_42 zr_184_404 ?_
                                    exact zw_less (L := [(2, 69), (0, a0), (0, a1), (0, a2), (0, i19), (0, i27), (0, (i46 + 1)), (9, 0), (9, 0), (9, 0), (9, 0)]) ⟨Or.inr rfl, Or.inr rfl, Or.inr rfl, Or.inr rfl, Or.inr rfl, Or.inr rfl, Or.inr rfl, Or.inl rfl, Or.inl rfl, Or.inl rfl, Or.inl rfl, trivial⟩ (ihlp268_49 ((i46 + 1)) (zPt f48 ((((10 * i27) + i46)).toNat) x61) m62 hIm62 hFm62  km62_70_823 fm62_70 fm62_80 (by omega) (by omega) (by first | exact zF3_s hv0lp268_49 hx hy hz (by omega) (by omega) | exact zF3_s hv0lp268_49 hx hy hw (by omega) (by omega)) (by omega))
                                  · intro h64; omega
                                · intro h65
                                  refine zw_7 zr_184_322 rfl ?_
                                  refine zw_46r (s := 80) zr_184_323 rfl rfl rfl rfl ?_
                                  refine zw_push zr_184_326 ?_
                                  refine zw_4 zr_184_328 rfl ?_
                                  refine zw_18 zr_184_330 (by omega) ?_
                                  refine zw_4 zr_184_331 rfl ?_
                                  refine zw_16 zr_184_333 (by omega) ?_
                                  refine zw_48k (c := 80) (len := 100) zr_184_334 rfl rfl (by omega) (by omega) rfl ex55.symm ?_
                                  refine zw_push zr_184_335 ?_
                                  refine zw_41_3 zr_184_337 ?_ ?_
                                  · intro h66
                                    refine zw_push zr_184_344 ?_
                                    refine zw_10 (L' := [(2, 69), (0, a0), (0, a1), (0, a2), (0, i19), (0, i27), (0, i46), (0, (x54 + x55)), (0, 0), (9, 0), (9, 0)]) zr_184_345 (Nat.le_of_ble_eq_true rfl) rfl ?_
                                    refine zw_7 zr_184_347 rfl ?_
                                    refine zw_46r (s := 80) zr_184_348 rfl rfl rfl rfl ?_
                                    refine zw_push zr_184_351 ?_
                                    refine zw_4 zr_184_353 rfl ?_
                                    refine zw_18 zr_184_355 (by omega) ?_
                                    refine zw_4 zr_184_356 rfl ?_
                                    refine zw_16 zr_184_358 (by omega) ?_
                                    refine zw_4 zr_184_359 rfl ?_
                                    refine zw_40_1 zr_184_361 ?_ ?_
                                    · intro h67
                                      refine zw_7 zr_184_387 rfl ?_
                                      refine zw_46r (s := 80) zr_184_388 rfl rfl rfl rfl ?_
                                      refine zw_push zr_184_391 ?_
                                      refine zw_4 zr_184_393 rfl ?_
                                      refine zw_18 zr_184_395 (by omega) ?_
                                      refine zw_4 zr_184_396 rfl ?_
                                      refine zw_16 zr_184_398 (by omega) ?_
                                      refine zw_48 (c := 80) (len := 100) zr_184_399 rfl rfl (by omega) (by omega) ?_
                                      intro x68 ex68
                                      have bx68 := ib_80 hIm47 (k := (((10 * i27) + i46)).toNat) (by omega)
                                      rw [← ex68] at bx68
                                      have qx68 : x68 = f48 (((10 * i27) + i46)).toNat := by rw [← fm47_80]; exact ex68
                                      clear ex68
                                      have hw := qx68
                                      refine zw_49 (c := 80) (len := 100) zr_184_400 rfl rfl (by omega) (by omega) ?_
                                      intro m69 em69
                                      have hIm69 : zInv m69 := by rw [em69]; exact iu_80 hIm47 (by omega)
                                      have hFm69 : zFr W_184 m0 m69 := by rw [em69]; exact hFm47.any rfl
                                      have km69_70_823 : m69 70 823 = g0 := by rw [em69, zUp_ne (by omega)]; exact km47_70_823
                                      have fm69_70 : m69 70 = F70 := by rw [em69, zUp_fn (by decide)]; exact fm47_70
                                      have fm69_80 : m69 80 = zPt f48 ((((10 * i27) + i46)).toNat) x68 := by rw [em69]; exact (zUp_ff (m := m47)).trans (congrArg (fun q => zPt q ((((10 * i27) + i46)).toNat) x68) fm47_80)
                                      clear em69
                                      refine zw_15 (c := 1) (L' := [(2, 69), (0, a0), (0, a1), (0, a2), (0, i19), (0, i27), (0, (i46 + 1)), (0, (x54 + x55)), (0, 0), (9, 0), (9, 0)]) zr_184_401 rfl (by decide) (by omega) rfl ?_
                                      refine zw_42 zr_184_404 ?_
                                      exact zw_less (L := [(2, 69), (0, a0), (0, a1), (0, a2), (0, i19), (0, i27), (0, (i46 + 1)), (9, 0), (9, 0), (9, 0), (9, 0)]) ⟨Or.inr rfl, Or.inr rfl, Or.inr rfl, Or.inr rfl, Or.inr rfl, Or.inr rfl, Or.inr rfl, Or.inl rfl, Or.inl rfl, Or.inl rfl, Or.inl rfl, trivial⟩ (ihlp268_49 ((i46 + 1)) (zPt f48 ((((10 * i27) + i46)).toNat) x68) m69 hIm69 hFm69  km69_70_823 fm69_70 fm69_80 (by omega) (by omega) (by first | exact zF3_s hv0lp268_49 hx hy hz (by omega) (by omega) | exact zF3_s hv0lp268_49 hx hy hw (by omega) (by omega)) (by omega))
                                    · intro h71; omega
                                  · intro h72
                                    refine zw_push zr_184_340 ?_
                                    refine zw_42 zr_184_341 ?_
                                    refine zw_10 (L' := [(2, 69), (0, a0), (0, a1), (0, a2), (0, i19), (0, i27), (0, i46), (0, (x54 + x55)), (0, 1), (9, 0), (9, 0)]) zr_184_345 (Nat.le_of_ble_eq_true rfl) rfl ?_
                                    refine zw_7 zr_184_347 rfl ?_
                                    refine zw_46r (s := 80) zr_184_348 rfl rfl rfl rfl ?_
                                    refine zw_push zr_184_351 ?_
                                    refine zw_4 zr_184_353 rfl ?_
                                    refine zw_18 zr_184_355 (by omega) ?_
                                    refine zw_4 zr_184_356 rfl ?_
                                    refine zw_16 zr_184_358 (by omega) ?_
                                    refine zw_4 zr_184_359 rfl ?_
                                    refine zw_40_1 zr_184_361 ?_ ?_
                                    · intro h73; omega
                                    · intro h74
                                      refine zw_4 zr_184_364 rfl ?_
                                      refine zw_7 zr_184_366 rfl ?_
                                      refine zw_46r (s := 80) zr_184_367 rfl rfl rfl rfl ?_
                                      refine zw_push zr_184_370 ?_
                                      refine zw_4 zr_184_372 rfl ?_
                                      refine zw_18 zr_184_374 (by omega) ?_
                                      refine zw_4 zr_184_375 rfl ?_
                                      refine zw_16 zr_184_377 (by omega) ?_
                                      refine zw_48 (c := 80) (len := 100) zr_184_378 rfl rfl (by omega) (by omega) ?_
                                      intro x75 ex75
                                      have bx75 := ib_80 hIm47 (k := (((10 * i27) + i46)).toNat) (by omega)
                                      rw [← ex75] at bx75
                                      have qx75 : x75 = f48 (((10 * i27) + i46)).toNat := by rw [← fm47_80]; exact ex75
                                      have hz := qx75
                                      refine zw_41_3 zr_184_379 ?_ ?_
                                      · intro h77
                                        refine zw_7 zr_184_387 rfl ?_
                                        refine zw_46r (s := 80) zr_184_388 rfl rfl rfl rfl ?_
                                        refine zw_push zr_184_391 ?_
                                        refine zw_4 zr_184_393 rfl ?_
                                        refine zw_18 zr_184_395 (by omega) ?_
                                        refine zw_4 zr_184_396 rfl ?_
                                        refine zw_16 zr_184_398 (by omega) ?_
                                        refine zw_48k (c := 80) (len := 100) zr_184_399 rfl rfl (by omega) (by omega) rfl ex75.symm ?_
                                        have hw := qx75
                                        refine zw_49 (c := 80) (len := 100) zr_184_400 rfl rfl (by omega) (by omega) ?_
                                        intro m78 em78
                                        have hIm78 : zInv m78 := by rw [em78]; exact iu_80 hIm47 (by omega)
                                        have hFm78 : zFr W_184 m0 m78 := by rw [em78]; exact hFm47.any rfl
                                        have km78_70_823 : m78 70 823 = g0 := by rw [em78, zUp_ne (by omega)]; exact km47_70_823
                                        have fm78_70 : m78 70 = F70 := by rw [em78, zUp_fn (by decide)]; exact fm47_70
                                        have fm78_80 : m78 80 = zPt f48 ((((10 * i27) + i46)).toNat) x75 := by rw [em78]; exact (zUp_ff (m := m47)).trans (congrArg (fun q => zPt q ((((10 * i27) + i46)).toNat) x75) fm47_80)
                                        clear em78
                                        refine zw_15 (c := 1) (L' := [(2, 69), (0, a0), (0, a1), (0, a2), (0, i19), (0, i27), (0, (i46 + 1)), (0, (x54 + x55)), (0, 1), (9, 0), (9, 0)]) zr_184_401 rfl (by decide) (by omega) rfl ?_
                                        refine zw_42 zr_184_404 ?_
                                        exact zw_less (L := [(2, 69), (0, a0), (0, a1), (0, a2), (0, i19), (0, i27), (0, (i46 + 1)), (9, 0), (9, 0), (9, 0), (9, 0)]) ⟨Or.inr rfl, Or.inr rfl, Or.inr rfl, Or.inr rfl, Or.inr rfl, Or.inr rfl, Or.inr rfl, Or.inl rfl, Or.inl rfl, Or.inl rfl, Or.inl rfl, trivial⟩ (ihlp268_49 ((i46 + 1)) (zPt f48 ((((10 * i27) + i46)).toNat) x75) m78 hIm78 hFm78  km78_70_823 fm78_70 fm78_80 (by omega) (by omega) (by first | exact zF3_s hv0lp268_49 hx hy hz (by omega) (by omega) | exact zF3_s hv0lp268_49 hx hy hw (by omega) (by omega)) (by omega))
                                      · intro h80
                                        refine zw_4 zr_184_382 rfl ?_
                                        refine zw_42 zr_184_384 ?_
                                        skip
                                        refine zw_49 (c := 80) (len := 100) zr_184_400 rfl rfl (by omega) (by omega) ?_
                                        intro m81 em81
                                        have hIm81 : zInv m81 := by rw [em81]; exact iu_80 hIm47 (by omega)
                                        have hFm81 : zFr W_184 m0 m81 := by rw [em81]; exact hFm47.any rfl
                                        have km81_70_823 : m81 70 823 = g0 := by rw [em81, zUp_ne (by omega)]; exact km47_70_823
                                        have fm81_70 : m81 70 = F70 := by rw [em81, zUp_fn (by decide)]; exact fm47_70
                                        have fm81_80 : m81 80 = zPt f48 ((((10 * i27) + i46)).toNat) ((x54 + x55)) := by rw [em81]; exact (zUp_ff (m := m47)).trans (congrArg (fun q => zPt q ((((10 * i27) + i46)).toNat) ((x54 + x55))) fm47_80)
                                        clear em81
                                        refine zw_15 (c := 1) (L' := [(2, 69), (0, a0), (0, a1), (0, a2), (0, i19), (0, i27), (0, (i46 + 1)), (0, (x54 + x55)), (0, 1), (9, 0), (9, 0)]) zr_184_401 rfl (by decide) (by omega) rfl ?_
                                        refine zw_42 zr_184_404 ?_
                                        exact zw_less (L := [(2, 69), (0, a0), (0, a1), (0, a2), (0, i19), (0, i27), (0, (i46 + 1)), (9, 0), (9, 0), (9, 0), (9, 0)]) ⟨Or.inr rfl, Or.inr rfl, Or.inr rfl, Or.inr rfl, Or.inr rfl, Or.inr rfl, Or.inr rfl, Or.inl rfl, Or.inl rfl, Or.inl rfl, Or.inl rfl, trivial⟩ (ihlp268_49 ((i46 + 1)) (zPt f48 ((((10 * i27) + i46)).toNat) ((x54 + x55))) m81 hIm81 hFm81  km81_70_823 fm81_70 fm81_80 (by omega) (by omega) (by first | exact zF3_s hv0lp268_49 hx hy hz (by omega) (by omega) | exact zF3_s hv0lp268_49 hx hy hw (by omega) (by omega)) (by omega))
                          exact lp268_49 _ (0) (f29) m28 hIm28 hFm28  km28_70_823 fm28_70 fm28_80 (by omega) (by omega) (hv0lp258_30) (Nat.lt_succ_self _)
                    exact lp258_30 _ (0) (f21) m20 hIm20 hFm20  km20_70_823 fm20_70 fm20_80 (by omega) (by omega) (zF3_0 hv0lp248_22) (Nat.lt_succ_self _)
              exact lp248_22 _ (0) (f9) m8 hIm8 hFm8  km8_70_823 fm8_70 fm8_80 (by omega) (by omega) (zFm_o hv0lp45_10 (by omega)) (Nat.lt_succ_self _)
            · intro h86
              refine zw_7 zr_184_54 rfl ?_
              refine zw_4 zr_184_55 rfl ?_
              refine zw_C zr_184_57 (Or.inl rfl) zm_181 rfl rfl ⟨Nat.le_of_ble_eq_true rfl, Nat.le_of_ble_eq_true rfl, Nat.le_of_ble_eq_true rfl, rfl, by decide⟩ (by omega) (P := (fun v m' => zW E (d) 184 60 [(2, 69), (0, a0), (0, a1), (0, a2), (0, i7), (9, 0), (9, 0), (9, 0), (9, 0), (9, 0), (9, 0)] (if v.1 = 9 then [] else v :: []) m' Q)) ?_ (fun _ _ h => h)
              generalize hQ1 : (fun v m' => zW E (d) 184 60 [(2, 69), (0, a0), (0, a1), (0, a2), (0, i7), (9, 0), (9, 0), (9, 0), (9, 0), (9, 0), (9, 0)] (if v.1 = 9 then [] else v :: []) m' Q) = Q1
              show zW E (d - 1) 181 0 [(2, 69), (0, i7)] [] m8 Q1
              refine zw_7 zr_181_0 rfl ?_
              refine zw_3 zr_181_1 rfl ?_
              refine zw_push zr_181_2 ?_
              refine zw_C zr_181_3 (Or.inl rfl) zm_144 rfl rfl ⟨Nat.le_of_ble_eq_true rfl, Nat.le_of_ble_eq_true rfl, Nat.le_of_ble_eq_true rfl, rfl, by decide⟩ (by omega) (P := (fun v m' => zW E (d - 1) 181 6 [(2, 69), (0, i7)] (if v.1 = 9 then [] else v :: []) m' Q1)) ?_ (fun _ _ h => h)
              generalize hQ2 : (fun v m' => zW E (d - 1) 181 6 [(2, 69), (0, i7)] (if v.1 = 9 then [] else v :: []) m' Q1) = Q2
              show zW E (d - 1 - 1) 144 0 [(2, 69), (0, i7), (0, 4)] [] m8 Q2
              refine zw_7 zr_144_0 rfl ?_
              refine zw_46r (s := 70) zr_144_1 rfl rfl rfl rfl ?_
              refine zw_push zr_144_4 ?_
              refine zw_push zr_144_6 ?_
              refine zw_3 zr_144_8 rfl ?_
              refine zw_18 zr_144_9 (by omega) ?_
              refine zw_16 zr_144_10 (by omega) ?_
              refine zw_3 zr_144_11 rfl ?_
              refine zw_16 zr_144_12 (by omega) ?_
              refine zw_48 (c := 70) (len := 826) zr_144_13 rfl rfl (by omega) (by omega) ?_
              intro x87 ex87
              have bx87 := ib_70_m4 hIm8 (k := (((90 + (6 * i7)) + 4)).toNat) (by omega)
              rw [← ex87] at bx87
              have qx87 : x87 = F70 (((90 + (6 * i7)) + 4)).toNat := by rw [← fm8_70]; exact ex87
              clear ex87
              refine zw_R zr_144_14 (by decide) zm_144 (v := (0, x87)) rfl ?_
              rw [← hQ2]
              show zW E (d - 1) 181 6 [(2, 69), (0, i7)] [(0, x87)] m8 Q1
              refine zw_40_4 zr_181_6 ?_ ?_
              · intro h88
                refine zw_push zr_181_22 ?_
                refine zw_R zr_181_23 (by decide) zm_181 (v := (0, 0)) (zRetB (by omega)) ?_
                rw [← hQ1]
                show zW E (d) 184 60 [(2, 69), (0, a0), (0, a1), (0, a2), (0, i7), (9, 0), (9, 0), (9, 0), (9, 0), (9, 0), (9, 0)] [(0, 0)] m8 Q
                refine zw_40_1 zr_184_60 ?_ ?_
                · intro h89
                  refine zw_15 (c := 1) (L' := [(2, 69), (0, a0), (0, a1), (0, a2), (0, (i7 + 1)), (9, 0), (9, 0), (9, 0), (9, 0), (9, 0), (9, 0)]) zr_184_239 rfl (by decide) (by omega) rfl ?_
                  refine zw_42 zr_184_242 ?_
                  exact zw_less (L := [(2, 69), (0, a0), (0, a1), (0, a2), (0, (i7 + 1)), (9, 0), (9, 0), (9, 0), (9, 0), (9, 0), (9, 0)]) ⟨Or.inr rfl, Or.inr rfl, Or.inr rfl, Or.inr rfl, Or.inr rfl, Or.inl rfl, Or.inl rfl, Or.inl rfl, Or.inl rfl, Or.inl rfl, Or.inl rfl, trivial⟩ (ihlp45_10 ((i7 + 1)) (f9) m8 hIm8 hFm8  km8_70_823 fm8_70 fm8_80 (by omega) (by omega) (by first | exact zFm_n hv0lp45_10 (by omega) (by omega) | exact zFm_s (e := zz) hv0lp45_10 (by omega) (by omega) (by omega) (by omega) (by omega) (by omega) (by omega) zz zz (by omega) (by omega) hp0 zz zz) (by omega) (by omega))
                · intro h91; omega
              · intro h92
                refine zw_7 zr_181_9 rfl ?_
                refine zw_3 zr_181_10 rfl ?_
                refine zw_push zr_181_11 ?_
                refine zw_C zr_181_12 (Or.inl rfl) zm_144 rfl rfl ⟨Nat.le_of_ble_eq_true rfl, Nat.le_of_ble_eq_true rfl, Nat.le_of_ble_eq_true rfl, rfl, by decide⟩ (by omega) (P := (fun v m' => zW E (d - 1) 181 15 [(2, 69), (0, i7)] (if v.1 = 9 then [] else v :: []) m' Q1)) ?_ (fun _ _ h => h)
                generalize hQ2 : (fun v m' => zW E (d - 1) 181 15 [(2, 69), (0, i7)] (if v.1 = 9 then [] else v :: []) m' Q1) = Q2
                show zW E (d - 1 - 1) 144 0 [(2, 69), (0, i7), (0, 5)] [] m8 Q2
                refine zw_7 zr_144_0 rfl ?_
                refine zw_46r (s := 70) zr_144_1 rfl rfl rfl rfl ?_
                refine zw_push zr_144_4 ?_
                refine zw_push zr_144_6 ?_
                refine zw_3 zr_144_8 rfl ?_
                refine zw_18 zr_144_9 (by omega) ?_
                refine zw_16 zr_144_10 (by omega) ?_
                refine zw_3 zr_144_11 rfl ?_
                refine zw_16 zr_144_12 (by omega) ?_
                refine zw_48 (c := 70) (len := 826) zr_144_13 rfl rfl (by omega) (by omega) ?_
                intro x93 ex93
                have bx93 := ib_70_m5 hIm8 (k := (((90 + (6 * i7)) + 5)).toNat) (by omega)
                rw [← ex93] at bx93
                have qx93 : x93 = F70 (((90 + (6 * i7)) + 5)).toNat := by rw [← fm8_70]; exact ex93
                clear ex93
                refine zw_R zr_144_14 (by decide) zm_144 (v := (0, x93)) rfl ?_
                rw [← hQ2]
                show zW E (d - 1) 181 15 [(2, 69), (0, i7)] [(0, x93)] m8 Q1
                refine zw_40_4 zr_181_15 ?_ ?_
                · intro h94
                  refine zw_push zr_181_22 ?_
                  refine zw_R zr_181_23 (by decide) zm_181 (v := (0, 0)) (zRetB (by omega)) ?_
                  rw [← hQ1]
                  show zW E (d) 184 60 [(2, 69), (0, a0), (0, a1), (0, a2), (0, i7), (9, 0), (9, 0), (9, 0), (9, 0), (9, 0), (9, 0)] [(0, 0)] m8 Q
                  refine zw_40_1 zr_184_60 ?_ ?_
                  · intro h95
                    refine zw_15 (c := 1) (L' := [(2, 69), (0, a0), (0, a1), (0, a2), (0, (i7 + 1)), (9, 0), (9, 0), (9, 0), (9, 0), (9, 0), (9, 0)]) zr_184_239 rfl (by decide) (by omega) rfl ?_
                    refine zw_42 zr_184_242 ?_
                    exact zw_less (L := [(2, 69), (0, a0), (0, a1), (0, a2), (0, (i7 + 1)), (9, 0), (9, 0), (9, 0), (9, 0), (9, 0), (9, 0)]) ⟨Or.inr rfl, Or.inr rfl, Or.inr rfl, Or.inr rfl, Or.inr rfl, Or.inl rfl, Or.inl rfl, Or.inl rfl, Or.inl rfl, Or.inl rfl, Or.inl rfl, trivial⟩ (ihlp45_10 ((i7 + 1)) (f9) m8 hIm8 hFm8  km8_70_823 fm8_70 fm8_80 (by omega) (by omega) (by first | exact zFm_n hv0lp45_10 (by omega) (by omega) | exact zFm_s (e := zz) hv0lp45_10 (by omega) (by omega) (by omega) (by omega) (by omega) (by omega) (by omega) zz zz (by omega) (by omega) hp0 zz zz) (by omega) (by omega))
                  · intro h97; omega
                · intro h98
                  refine zw_push zr_181_18 ?_
                  refine zw_42 zr_181_19 ?_
                  refine zw_R zr_181_23 (by decide) zm_181 (v := (0, 1)) (zRetB (by omega)) ?_
                  rw [← hQ1]
                  show zW E (d) 184 60 [(2, 69), (0, a0), (0, a1), (0, a2), (0, i7), (9, 0), (9, 0), (9, 0), (9, 0), (9, 0), (9, 0)] [(0, 1)] m8 Q
                  refine zw_40_1 zr_184_60 ?_ ?_
                  · intro h99; omega
                  · intro h100
                    refine zw_4 zr_184_63 rfl ?_
                    refine zw_3 zr_184_65 rfl ?_
                    refine zw_41_1 zr_184_66 ?_ ?_
                    · intro h101
                      refine zw_15 (c := 1) (L' := [(2, 69), (0, a0), (0, a1), (0, a2), (0, (i7 + 1)), (9, 0), (9, 0), (9, 0), (9, 0), (9, 0), (9, 0)]) zr_184_239 rfl (by decide) (by omega) rfl ?_
                      refine zw_42 zr_184_242 ?_
                      exact zw_less (L := [(2, 69), (0, a0), (0, a1), (0, a2), (0, (i7 + 1)), (9, 0), (9, 0), (9, 0), (9, 0), (9, 0), (9, 0)]) ⟨Or.inr rfl, Or.inr rfl, Or.inr rfl, Or.inr rfl, Or.inr rfl, Or.inl rfl, Or.inl rfl, Or.inl rfl, Or.inl rfl, Or.inl rfl, Or.inl rfl, trivial⟩ (ihlp45_10 ((i7 + 1)) (f9) m8 hIm8 hFm8  km8_70_823 fm8_70 fm8_80 (by omega) (by omega) (by first | exact zFm_n hv0lp45_10 (by omega) (by omega) | exact zFm_s (e := zz) hv0lp45_10 (by omega) (by omega) (by omega) (by omega) (by omega) (by omega) (by omega) zz zz (by omega) (by omega) hp0 zz zz) (by omega) (by omega))
                    · intro h103
                      refine zw_4 zr_184_69 rfl ?_
                      refine zw_3 zr_184_71 rfl ?_
                      refine zw_41_1 zr_184_72 ?_ ?_
                      · intro h104
                        refine zw_15 (c := 1) (L' := [(2, 69), (0, a0), (0, a1), (0, a2), (0, (i7 + 1)), (9, 0), (9, 0), (9, 0), (9, 0), (9, 0), (9, 0)]) zr_184_239 rfl (by decide) (by omega) rfl ?_
                        refine zw_42 zr_184_242 ?_
                        exact zw_less (L := [(2, 69), (0, a0), (0, a1), (0, a2), (0, (i7 + 1)), (9, 0), (9, 0), (9, 0), (9, 0), (9, 0), (9, 0)]) ⟨Or.inr rfl, Or.inr rfl, Or.inr rfl, Or.inr rfl, Or.inr rfl, Or.inl rfl, Or.inl rfl, Or.inl rfl, Or.inl rfl, Or.inl rfl, Or.inl rfl, trivial⟩ (ihlp45_10 ((i7 + 1)) (f9) m8 hIm8 hFm8  km8_70_823 fm8_70 fm8_80 (by omega) (by omega) (by first | exact zFm_n hv0lp45_10 (by omega) (by omega) | exact zFm_s (e := zz) hv0lp45_10 (by omega) (by omega) (by omega) (by omega) (by omega) (by omega) (by omega) zz zz (by omega) (by omega) hp0 zz zz) (by omega) (by omega))
                      · intro h106
                        refine zw_4 zr_184_75 rfl ?_
                        refine zw_3 zr_184_77 rfl ?_
                        refine zw_41_1 zr_184_78 ?_ ?_
                        · intro h107
                          refine zw_15 (c := 1) (L' := [(2, 69), (0, a0), (0, a1), (0, a2), (0, (i7 + 1)), (9, 0), (9, 0), (9, 0), (9, 0), (9, 0), (9, 0)]) zr_184_239 rfl (by decide) (by omega) rfl ?_
                          refine zw_42 zr_184_242 ?_
                          exact zw_less (L := [(2, 69), (0, a0), (0, a1), (0, a2), (0, (i7 + 1)), (9, 0), (9, 0), (9, 0), (9, 0), (9, 0), (9, 0)]) ⟨Or.inr rfl, Or.inr rfl, Or.inr rfl, Or.inr rfl, Or.inr rfl, Or.inl rfl, Or.inl rfl, Or.inl rfl, Or.inl rfl, Or.inl rfl, Or.inl rfl, trivial⟩ (ihlp45_10 ((i7 + 1)) (f9) m8 hIm8 hFm8  km8_70_823 fm8_70 fm8_80 (by omega) (by omega) (by first | exact zFm_n hv0lp45_10 (by omega) (by omega) | exact zFm_s (e := zz) hv0lp45_10 (by omega) (by omega) (by omega) (by omega) (by omega) (by omega) (by omega) zz zz (by omega) (by omega) hp0 zz zz) (by omega) (by omega))
                        · intro h109
                          refine zw_7 zr_184_81 rfl ?_
                          refine zw_4 zr_184_82 rfl ?_
                          refine zw_push zr_184_84 ?_
                          refine zw_C zr_184_85 (Or.inl rfl) zm_144 rfl rfl ⟨Nat.le_of_ble_eq_true rfl, Nat.le_of_ble_eq_true rfl, Nat.le_of_ble_eq_true rfl, rfl, by decide⟩ (by omega) (P := (fun v m' => zW E (d) 184 88 [(2, 69), (0, a0), (0, a1), (0, a2), (0, i7), (9, 0), (9, 0), (9, 0), (9, 0), (9, 0), (9, 0)] (if v.1 = 9 then [] else v :: []) m' Q)) ?_ (fun _ _ h => h)
                          generalize hQ1 : (fun v m' => zW E (d) 184 88 [(2, 69), (0, a0), (0, a1), (0, a2), (0, i7), (9, 0), (9, 0), (9, 0), (9, 0), (9, 0), (9, 0)] (if v.1 = 9 then [] else v :: []) m' Q) = Q1
                          show zW E (d - 1) 144 0 [(2, 69), (0, i7), (0, 1)] [] m8 Q1
                          refine zw_7 zr_144_0 rfl ?_
                          refine zw_46r (s := 70) zr_144_1 rfl rfl rfl rfl ?_
                          refine zw_push zr_144_4 ?_
                          refine zw_push zr_144_6 ?_
                          refine zw_3 zr_144_8 rfl ?_
                          refine zw_18 zr_144_9 (by omega) ?_
                          refine zw_16 zr_144_10 (by omega) ?_
                          refine zw_3 zr_144_11 rfl ?_
                          refine zw_16 zr_144_12 (by omega) ?_
                          refine zw_48 (c := 70) (len := 826) zr_144_13 rfl rfl (by omega) (by omega) ?_
                          intro x110 ex110
                          have bx110 := ib_70_m1 hIm8 (k := (((90 + (6 * i7)) + 1)).toNat) (by omega)
                          rw [← ex110] at bx110
                          have qx110 : x110 = F70 (((90 + (6 * i7)) + 1)).toNat := by rw [← fm8_70]; exact ex110
                          refine zw_R zr_144_14 (by decide) zm_144 (v := (0, x110)) rfl ?_
                          rw [← hQ1]
                          show zW E (d) 184 88 [(2, 69), (0, a0), (0, a1), (0, a2), (0, i7), (9, 0), (9, 0), (9, 0), (9, 0), (9, 0), (9, 0)] [(0, x110)] m8 Q
                          refine zw_10 (L' := [(2, 69), (0, a0), (0, a1), (0, a2), (0, i7), (0, x110), (9, 0), (9, 0), (9, 0), (9, 0), (9, 0)]) zr_184_88 (Nat.le_of_ble_eq_true rfl) rfl ?_
                          refine zw_7 zr_184_90 rfl ?_
                          refine zw_4 zr_184_91 rfl ?_
                          refine zw_push zr_184_93 ?_
                          refine zw_C zr_184_94 (Or.inl rfl) zm_144 rfl rfl ⟨Nat.le_of_ble_eq_true rfl, Nat.le_of_ble_eq_true rfl, Nat.le_of_ble_eq_true rfl, rfl, by decide⟩ (by omega) (P := (fun v m' => zW E (d) 184 97 [(2, 69), (0, a0), (0, a1), (0, a2), (0, i7), (0, x110), (9, 0), (9, 0), (9, 0), (9, 0), (9, 0)] (if v.1 = 9 then [] else v :: []) m' Q)) ?_ (fun _ _ h => h)
                          generalize hQ1 : (fun v m' => zW E (d) 184 97 [(2, 69), (0, a0), (0, a1), (0, a2), (0, i7), (0, x110), (9, 0), (9, 0), (9, 0), (9, 0), (9, 0)] (if v.1 = 9 then [] else v :: []) m' Q) = Q1
                          show zW E (d - 1) 144 0 [(2, 69), (0, i7), (0, 2)] [] m8 Q1
                          refine zw_7 zr_144_0 rfl ?_
                          refine zw_46r (s := 70) zr_144_1 rfl rfl rfl rfl ?_
                          refine zw_push zr_144_4 ?_
                          refine zw_push zr_144_6 ?_
                          refine zw_3 zr_144_8 rfl ?_
                          refine zw_18 zr_144_9 (by omega) ?_
                          refine zw_16 zr_144_10 (by omega) ?_
                          refine zw_3 zr_144_11 rfl ?_
                          refine zw_16 zr_144_12 (by omega) ?_
                          refine zw_48 (c := 70) (len := 826) zr_144_13 rfl rfl (by omega) (by omega) ?_
                          intro x111 ex111
                          have bx111 := ib_70_m2 hIm8 (k := (((90 + (6 * i7)) + 2)).toNat) (by omega)
                          rw [← ex111] at bx111
                          have qx111 : x111 = F70 (((90 + (6 * i7)) + 2)).toNat := by rw [← fm8_70]; exact ex111
                          refine zw_R zr_144_14 (by decide) zm_144 (v := (0, x111)) rfl ?_
                          rw [← hQ1]
                          show zW E (d) 184 97 [(2, 69), (0, a0), (0, a1), (0, a2), (0, i7), (0, x110), (9, 0), (9, 0), (9, 0), (9, 0), (9, 0)] [(0, x111)] m8 Q
                          refine zw_10 (L' := [(2, 69), (0, a0), (0, a1), (0, a2), (0, i7), (0, x110), (0, x111), (9, 0), (9, 0), (9, 0), (9, 0)]) zr_184_97 (Nat.le_of_ble_eq_true rfl) rfl ?_
                          refine zw_7 zr_184_99 rfl ?_
                          refine zw_4 zr_184_100 rfl ?_
                          refine zw_7 zr_184_102 rfl ?_
                          refine zw_4 zr_184_103 rfl ?_
                          refine zw_push zr_184_105 ?_
                          refine zw_C zr_184_106 (Or.inl rfl) zm_144 rfl rfl ⟨Nat.le_of_ble_eq_true rfl, Nat.le_of_ble_eq_true rfl, Nat.le_of_ble_eq_true rfl, rfl, by decide⟩ (by omega) (P := (fun v m' => zW E (d) 184 109 [(2, 69), (0, a0), (0, a1), (0, a2), (0, i7), (0, x110), (0, x111), (9, 0), (9, 0), (9, 0), (9, 0)] (if v.1 = 9 then [(0, x110), (2, 69)] else v :: [(0, x110), (2, 69)]) m' Q)) ?_ (fun _ _ h => h)
                          generalize hQ1 : (fun v m' => zW E (d) 184 109 [(2, 69), (0, a0), (0, a1), (0, a2), (0, i7), (0, x110), (0, x111), (9, 0), (9, 0), (9, 0), (9, 0)] (if v.1 = 9 then [(0, x110), (2, 69)] else v :: [(0, x110), (2, 69)]) m' Q) = Q1
                          show zW E (d - 1) 144 0 [(2, 69), (0, i7), (0, 0)] [] m8 Q1
                          refine zw_7 zr_144_0 rfl ?_
                          refine zw_46r (s := 70) zr_144_1 rfl rfl rfl rfl ?_
                          refine zw_push zr_144_4 ?_
                          refine zw_push zr_144_6 ?_
                          refine zw_3 zr_144_8 rfl ?_
                          refine zw_18 zr_144_9 (by omega) ?_
                          refine zw_16 zr_144_10 (by omega) ?_
                          refine zw_3 zr_144_11 rfl ?_
                          refine zw_16 zr_144_12 (by omega) ?_
                          refine zw_48 (c := 70) (len := 826) zr_144_13 rfl rfl (by omega) (by omega) ?_
                          intro x112 ex112
                          have bx112 := ib_70_m0 hIm8 (k := (((90 + (6 * i7)) + 0)).toNat) (by omega)
                          rw [← ex112] at bx112
                          have qx112 : x112 = F70 (((90 + (6 * i7)) + 0)).toNat := by rw [← fm8_70]; exact ex112
                          refine zw_R zr_144_14 (by decide) zm_144 (v := (0, x112)) rfl ?_
                          rw [← hQ1]
                          show zW E (d) 184 109 [(2, 69), (0, a0), (0, a1), (0, a2), (0, i7), (0, x110), (0, x111), (9, 0), (9, 0), (9, 0), (9, 0)] [(0, x112), (0, x110), (2, 69)] m8 Q
                          refine zw_C zr_184_109 (Or.inl rfl) zm_182 rfl rfl ⟨Nat.le_of_ble_eq_true rfl, Nat.le_of_ble_eq_true rfl, Nat.le_of_ble_eq_true rfl, rfl, by decide⟩ (by omega) (th_182 (d := d - 1) (by omega) hIm8 (a0 := x110) (a1 := x112)   (F70 := F70)  fm8_70 (by omega) (by omega) ) ?_
                          rintro _ _ ⟨r113, rfl, hr113a, hr113b, rfl, po0_r113⟩
                          show zW E (d) 184 112 [(2, 69), (0, a0), (0, a1), (0, a2), (0, i7), (0, x110), (0, x111), (9, 0), (9, 0), (9, 0), (9, 0)] [(0, r113)] m8 Q
                          refine zw_7 zr_184_112 rfl ?_
                          refine zw_4 zr_184_113 rfl ?_
                          refine zw_7 zr_184_115 rfl ?_
                          refine zw_4 zr_184_116 rfl ?_
                          refine zw_push zr_184_118 ?_
                          refine zw_C zr_184_119 (Or.inl rfl) zm_144 rfl rfl ⟨Nat.le_of_ble_eq_true rfl, Nat.le_of_ble_eq_true rfl, Nat.le_of_ble_eq_true rfl, rfl, by decide⟩ (by omega) (P := (fun v m' => zW E (d) 184 122 [(2, 69), (0, a0), (0, a1), (0, a2), (0, i7), (0, x110), (0, x111), (9, 0), (9, 0), (9, 0), (9, 0)] (if v.1 = 9 then [(0, x111), (2, 69), (0, r113)] else v :: [(0, x111), (2, 69), (0, r113)]) m' Q)) ?_ (fun _ _ h => h)
                          generalize hQ1 : (fun v m' => zW E (d) 184 122 [(2, 69), (0, a0), (0, a1), (0, a2), (0, i7), (0, x110), (0, x111), (9, 0), (9, 0), (9, 0), (9, 0)] (if v.1 = 9 then [(0, x111), (2, 69), (0, r113)] else v :: [(0, x111), (2, 69), (0, r113)]) m' Q) = Q1
                          show zW E (d - 1) 144 0 [(2, 69), (0, i7), (0, 0)] [] m8 Q1
                          refine zw_7 zr_144_0 rfl ?_
                          refine zw_46r (s := 70) zr_144_1 rfl rfl rfl rfl ?_
                          refine zw_push zr_144_4 ?_
                          refine zw_push zr_144_6 ?_
                          refine zw_3 zr_144_8 rfl ?_
                          refine zw_18 zr_144_9 (by omega) ?_
                          refine zw_16 zr_144_10 (by omega) ?_
                          refine zw_3 zr_144_11 rfl ?_
                          refine zw_16 zr_144_12 (by omega) ?_
                          refine zw_48k (c := 70) (len := 826) zr_144_13 rfl rfl (by omega) (by omega) rfl ex112.symm ?_
                          refine zw_R zr_144_14 (by decide) zm_144 (v := (0, x112)) rfl ?_
                          rw [← hQ1]
                          show zW E (d) 184 122 [(2, 69), (0, a0), (0, a1), (0, a2), (0, i7), (0, x110), (0, x111), (9, 0), (9, 0), (9, 0), (9, 0)] [(0, x112), (0, x111), (2, 69), (0, r113)] m8 Q
                          refine zw_C zr_184_122 (Or.inl rfl) zm_182 rfl rfl ⟨Nat.le_of_ble_eq_true rfl, Nat.le_of_ble_eq_true rfl, Nat.le_of_ble_eq_true rfl, rfl, by decide⟩ (by omega) (th_182 (d := d - 1) (by omega) hIm8 (a0 := x111) (a1 := x112)   (F70 := F70)  fm8_70 (by omega) (by omega) ) ?_
                          rintro _ _ ⟨r114, rfl, hr114a, hr114b, rfl, po0_r114⟩
                          show zW E (d) 184 125 [(2, 69), (0, a0), (0, a1), (0, a2), (0, i7), (0, x110), (0, x111), (9, 0), (9, 0), (9, 0), (9, 0)] [(0, r114), (0, r113)] m8 Q
                          refine zw_17 zr_184_125 (by omega) ?_
                          refine zw_10 (L' := [(2, 69), (0, a0), (0, a1), (0, a2), (0, i7), (0, x110), (0, x111), (0, (r113 - r114)), (9, 0), (9, 0), (9, 0)]) zr_184_126 (Nat.le_of_ble_eq_true rfl) rfl ?_
                          refine zw_7 zr_184_128 rfl ?_
                          refine zw_4 zr_184_129 rfl ?_
                          refine zw_push zr_184_131 ?_
                          refine zw_C zr_184_132 (Or.inl rfl) zm_144 rfl rfl ⟨Nat.le_of_ble_eq_true rfl, Nat.le_of_ble_eq_true rfl, Nat.le_of_ble_eq_true rfl, rfl, by decide⟩ (by omega) (P := (fun v m' => zW E (d) 184 135 [(2, 69), (0, a0), (0, a1), (0, a2), (0, i7), (0, x110), (0, x111), (0, (r113 - r114)), (9, 0), (9, 0), (9, 0)] (if v.1 = 9 then [] else v :: []) m' Q)) ?_ (fun _ _ h => h)
                          generalize hQ1 : (fun v m' => zW E (d) 184 135 [(2, 69), (0, a0), (0, a1), (0, a2), (0, i7), (0, x110), (0, x111), (0, (r113 - r114)), (9, 0), (9, 0), (9, 0)] (if v.1 = 9 then [] else v :: []) m' Q) = Q1
                          show zW E (d - 1) 144 0 [(2, 69), (0, i7), (0, 3)] [] m8 Q1
                          refine zw_7 zr_144_0 rfl ?_
                          refine zw_46r (s := 70) zr_144_1 rfl rfl rfl rfl ?_
                          refine zw_push zr_144_4 ?_
                          refine zw_push zr_144_6 ?_
                          refine zw_3 zr_144_8 rfl ?_
                          refine zw_18 zr_144_9 (by omega) ?_
                          refine zw_16 zr_144_10 (by omega) ?_
                          refine zw_3 zr_144_11 rfl ?_
                          refine zw_16 zr_144_12 (by omega) ?_
                          refine zw_48 (c := 70) (len := 826) zr_144_13 rfl rfl (by omega) (by omega) ?_
                          intro x115 ex115
                          have bx115 := ib_70_m3 hIm8 (k := (((90 + (6 * i7)) + 3)).toNat) (by omega)
                          rw [← ex115] at bx115
                          have qx115 : x115 = F70 (((90 + (6 * i7)) + 3)).toNat := by rw [← fm8_70]; exact ex115
                          refine zw_R zr_144_14 (by decide) zm_144 (v := (0, x115)) rfl ?_
                          rw [← hQ1]
                          show zW E (d) 184 135 [(2, 69), (0, a0), (0, a1), (0, a2), (0, i7), (0, x110), (0, x111), (0, (r113 - r114)), (9, 0), (9, 0), (9, 0)] [(0, x115)] m8 Q
                          refine zw_10 (L' := [(2, 69), (0, a0), (0, a1), (0, a2), (0, i7), (0, x110), (0, x111), (0, (r113 - r114)), (0, x115), (9, 0), (9, 0)]) zr_184_135 (Nat.le_of_ble_eq_true rfl) rfl ?_
                          refine zw_4 zr_184_137 rfl ?_
                          refine zw_push zr_184_139 ?_
                          refine zw_41_4 zr_184_140 ?_ ?_
                          · intro h116
                            refine zw_4 zr_184_147 rfl ?_
                            refine zw_push zr_184_149 ?_
                            refine zw_41_4 zr_184_150 ?_ ?_
                            · intro h117
                              refine zw_7 zr_184_165 rfl ?_
                              refine zw_46r (s := 70) zr_184_166 rfl rfl rfl rfl ?_
                              refine zw_push zr_184_169 ?_
                              obtain ⟨f118, ef118⟩ : ∃ v, m8 70 824 = v := ⟨_, rfl⟩
                              have bf118 : 1 ≤ m8 70 824 ∧ m8 70 824 ≤ 1000 := ib_70_wide hIm8 (by omega)
                              rw [ef118] at bf118
                              refine zw_48k (c := 70) (len := 826) zr_184_172 rfl rfl (by omega) (by omega) (show (824 : Int).toNat = 824 by omega) ef118 ?_
                              have qf118 : f118 = F70 824 := by rw [← fm8_70]; exact (ef118).symm
                              refine zw_38 zr_184_173 (by omega) ?_
                              refine zw_10 (L' := [(2, 69), (0, a0), (0, a1), (0, a2), (0, i7), (0, x110), (0, x111), (0, (r113 - r114)), (0, x115), (0, (-f118)), (9, 0)]) zr_184_174 (Nat.le_of_ble_eq_true rfl) rfl ?_
                              refine zw_4 zr_184_176 rfl ?_
                              refine zw_push zr_184_178 ?_
                              refine zw_41_4 zr_184_179 ?_ ?_
                              · intro h119
                                refine zw_4 zr_184_193 rfl ?_
                                refine zw_push zr_184_195 ?_
                                refine zw_41_4 zr_184_196 ?_ ?_
                                · intro h120
                                  refine zw_push zr_184_210 ?_
                                  refine zw_10 (L' := [(2, 69), (0, a0), (0, a1), (0, a2), (0, i7), (0, x110), (0, x111), (0, (r113 - r114)), (0, x115), (0, (-f118)), (0, (-1))]) zr_184_211 (Nat.le_of_ble_eq_true rfl) rfl ?_
                                  refine zw_7 zr_184_213 rfl ?_
                                  refine zw_4 zr_184_214 rfl ?_
                                  refine zw_4 zr_184_216 rfl ?_
                                  refine zw_4 zr_184_218 rfl ?_
                                  refine zw_4 zr_184_220 rfl ?_
                                  refine zw_17 zr_184_222 (by omega) ?_
                                  refine zw_C zr_184_223 (Or.inl rfl) zm_183 rfl rfl ⟨Nat.le_of_ble_eq_true rfl, Nat.le_of_ble_eq_true rfl, Nat.le_of_ble_eq_true rfl, rfl, by decide⟩ (by omega) (th_183 (d := d - 1) (by omega) hIm8 (a0 := x110) (a1 := x111) (a2 := ((-1) - (r113 - r114)))   (F80 := f9)  fm8_80 (by omega) (by omega) (by omega) ) ?_
                                  rintro _ m121 ⟨rfl, hIm121, gm121, po0_m121⟩
                                  have hFm121 : zFr W_184 m0 m121 := hFm8.trans gm121 rfl
                                  have km121_70_823 : m121 70 823 = g0 := (gm121 70 823 rfl).trans km8_70_823
                                  have km121_70_824 : m121 70 824 = f118 := (gm121 70 824 rfl).trans ef118
                                  have fm121_70 : m121 70 = F70 := (funext fun k => gm121 70 k rfl).trans fm8_70
                                  obtain ⟨f122, fm121_80⟩ : ∃ f, m121 80 = f := ⟨_, rfl⟩
                                  try rw [fm121_80] at po0_m121
                                  show zW E (d) 184 226 [(2, 69), (0, a0), (0, a1), (0, a2), (0, i7), (0, x110), (0, x111), (0, (r113 - r114)), (0, x115), (0, (-f118)), (0, (-1))] [] m121 Q
                                  refine zw_7 zr_184_226 rfl ?_
                                  refine zw_4 zr_184_227 rfl ?_
                                  refine zw_4 zr_184_229 rfl ?_
                                  refine zw_4 zr_184_231 rfl ?_
                                  refine zw_4 zr_184_233 rfl ?_
                                  refine zw_17 zr_184_235 (by omega) ?_
                                  refine zw_C zr_184_236 (Or.inl rfl) zm_183 rfl rfl ⟨Nat.le_of_ble_eq_true rfl, Nat.le_of_ble_eq_true rfl, Nat.le_of_ble_eq_true rfl, rfl, by decide⟩ (by omega) (th_183 (d := d - 1) (by omega) hIm121 (a0 := x111) (a1 := x110) (a2 := ((r113 - r114) - (-f118)))   (F80 := f122)  fm121_80 (by omega) (by omega) (by omega) ) ?_
                                  rintro _ m123 ⟨rfl, hIm123, gm123, po0_m123⟩
                                  have hFm123 : zFr W_184 m0 m123 := hFm121.trans gm123 rfl
                                  have km123_70_823 : m123 70 823 = g0 := (gm123 70 823 rfl).trans km121_70_823
                                  have km123_70_824 : m123 70 824 = f118 := (gm123 70 824 rfl).trans km121_70_824
                                  have fm123_70 : m123 70 = F70 := (funext fun k => gm123 70 k rfl).trans fm121_70
                                  obtain ⟨f124, fm123_80⟩ : ∃ f, m123 80 = f := ⟨_, rfl⟩
                                  try rw [fm123_80] at po0_m123
                                  show zW E (d) 184 239 [(2, 69), (0, a0), (0, a1), (0, a2), (0, i7), (0, x110), (0, x111), (0, (r113 - r114)), (0, x115), (0, (-f118)), (0, (-1))] [] m123 Q
                                  refine zw_15 (c := 1) (L' := [(2, 69), (0, a0), (0, a1), (0, a2), (0, (i7 + 1)), (0, x110), (0, x111), (0, (r113 - r114)), (0, x115), (0, (-f118)), (0, (-1))]) zr_184_239 rfl (by decide) (by omega) rfl ?_
                                  refine zw_42 zr_184_242 ?_
                                  exact zw_less (L := [(2, 69), (0, a0), (0, a1), (0, a2), (0, (i7 + 1)), (9, 0), (9, 0), (9, 0), (9, 0), (9, 0), (9, 0)]) ⟨Or.inr rfl, Or.inr rfl, Or.inr rfl, Or.inr rfl, Or.inr rfl, Or.inl rfl, Or.inl rfl, Or.inl rfl, Or.inl rfl, Or.inl rfl, Or.inl rfl, trivial⟩ (ihlp45_10 ((i7 + 1)) (f124) m123 hIm123 hFm123  km123_70_823 fm123_70 fm123_80 (by omega) (by omega) (by first | exact zFm_n hv0lp45_10 (by omega) (by omega) | exact zFm_s (e := x115) hv0lp45_10 (by omega) (by omega) (by omega) (by omega) (by omega) (by omega) (by omega) po0_r113 po0_r114 (by omega) (by omega) hp0 po0_m121 po0_m123) (by omega) (by omega))
                                · intro h126; omega
                              · intro h127; omega
                            · intro h128
                              refine zw_7 zr_184_153 rfl ?_
                              refine zw_46r (s := 70) zr_184_154 rfl rfl rfl rfl ?_
                              refine zw_push zr_184_157 ?_
                              obtain ⟨f129, ef129⟩ : ∃ v, m8 70 825 = v := ⟨_, rfl⟩
                              have bf129 : 0 ≤ m8 70 825 ∧ m8 70 825 ≤ 500 := ib_70_even hIm8 (by omega)
                              rw [ef129] at bf129
                              refine zw_48k (c := 70) (len := 826) zr_184_160 rfl rfl (by omega) (by omega) (show (825 : Int).toNat = 825 by omega) ef129 ?_
                              have qf129 : f129 = F70 825 := by rw [← fm8_70]; exact (ef129).symm
                              refine zw_38 zr_184_161 (by omega) ?_
                              refine zw_42 zr_184_162 ?_
                              refine zw_10 (L' := [(2, 69), (0, a0), (0, a1), (0, a2), (0, i7), (0, x110), (0, x111), (0, (r113 - r114)), (0, x115), (0, (-f129)), (9, 0)]) zr_184_174 (Nat.le_of_ble_eq_true rfl) rfl ?_
                              refine zw_4 zr_184_176 rfl ?_
                              refine zw_push zr_184_178 ?_
                              refine zw_41_4 zr_184_179 ?_ ?_
                              · intro h130
                                refine zw_4 zr_184_193 rfl ?_
                                refine zw_push zr_184_195 ?_
                                refine zw_41_4 zr_184_196 ?_ ?_
                                · intro h131; omega
                                · intro h132
                                  refine zw_7 zr_184_199 rfl ?_
                                  refine zw_46r (s := 70) zr_184_200 rfl rfl rfl rfl ?_
                                  refine zw_push zr_184_203 ?_
                                  refine zw_48k (c := 70) (len := 826) zr_184_206 rfl rfl (by omega) (by omega) (show (825 : Int).toNat = 825 by omega) ef129 ?_
                                  have qf129 : f129 = F70 825 := by rw [← fm8_70]; exact (ef129).symm
                                  refine zw_42 zr_184_207 ?_
                                  refine zw_10 (L' := [(2, 69), (0, a0), (0, a1), (0, a2), (0, i7), (0, x110), (0, x111), (0, (r113 - r114)), (0, x115), (0, (-f129)), (0, f129)]) zr_184_211 (Nat.le_of_ble_eq_true rfl) rfl ?_
                                  refine zw_7 zr_184_213 rfl ?_
                                  refine zw_4 zr_184_214 rfl ?_
                                  refine zw_4 zr_184_216 rfl ?_
                                  refine zw_4 zr_184_218 rfl ?_
                                  refine zw_4 zr_184_220 rfl ?_
                                  refine zw_17 zr_184_222 (by omega) ?_
                                  refine zw_C zr_184_223 (Or.inl rfl) zm_183 rfl rfl ⟨Nat.le_of_ble_eq_true rfl, Nat.le_of_ble_eq_true rfl, Nat.le_of_ble_eq_true rfl, rfl, by decide⟩ (by omega) (th_183 (d := d - 1) (by omega) hIm8 (a0 := x110) (a1 := x111) (a2 := (f129 - (r113 - r114)))   (F80 := f9)  fm8_80 (by omega) (by omega) (by omega) ) ?_
                                  rintro _ m133 ⟨rfl, hIm133, gm133, po0_m133⟩
                                  have hFm133 : zFr W_184 m0 m133 := hFm8.trans gm133 rfl
                                  have km133_70_823 : m133 70 823 = g0 := (gm133 70 823 rfl).trans km8_70_823
                                  have km133_70_825 : m133 70 825 = f129 := (gm133 70 825 rfl).trans ef129
                                  have fm133_70 : m133 70 = F70 := (funext fun k => gm133 70 k rfl).trans fm8_70
                                  obtain ⟨f134, fm133_80⟩ : ∃ f, m133 80 = f := ⟨_, rfl⟩
                                  try rw [fm133_80] at po0_m133
                                  show zW E (d) 184 226 [(2, 69), (0, a0), (0, a1), (0, a2), (0, i7), (0, x110), (0, x111), (0, (r113 - r114)), (0, x115), (0, (-f129)), (0, f129)] [] m133 Q
                                  refine zw_7 zr_184_226 rfl ?_
                                  refine zw_4 zr_184_227 rfl ?_
                                  refine zw_4 zr_184_229 rfl ?_
                                  refine zw_4 zr_184_231 rfl ?_
                                  refine zw_4 zr_184_233 rfl ?_
                                  refine zw_17 zr_184_235 (by omega) ?_
                                  refine zw_C zr_184_236 (Or.inl rfl) zm_183 rfl rfl ⟨Nat.le_of_ble_eq_true rfl, Nat.le_of_ble_eq_true rfl, Nat.le_of_ble_eq_true rfl, rfl, by decide⟩ (by omega) (th_183 (d := d - 1) (by omega) hIm133 (a0 := x111) (a1 := x110) (a2 := ((r113 - r114) - (-f129)))   (F80 := f134)  fm133_80 (by omega) (by omega) (by omega) ) ?_
                                  rintro _ m135 ⟨rfl, hIm135, gm135, po0_m135⟩
                                  have hFm135 : zFr W_184 m0 m135 := hFm133.trans gm135 rfl
                                  have km135_70_823 : m135 70 823 = g0 := (gm135 70 823 rfl).trans km133_70_823
                                  have km135_70_825 : m135 70 825 = f129 := (gm135 70 825 rfl).trans km133_70_825
                                  have fm135_70 : m135 70 = F70 := (funext fun k => gm135 70 k rfl).trans fm133_70
                                  obtain ⟨f136, fm135_80⟩ : ∃ f, m135 80 = f := ⟨_, rfl⟩
                                  try rw [fm135_80] at po0_m135
                                  show zW E (d) 184 239 [(2, 69), (0, a0), (0, a1), (0, a2), (0, i7), (0, x110), (0, x111), (0, (r113 - r114)), (0, x115), (0, (-f129)), (0, f129)] [] m135 Q
                                  refine zw_15 (c := 1) (L' := [(2, 69), (0, a0), (0, a1), (0, a2), (0, (i7 + 1)), (0, x110), (0, x111), (0, (r113 - r114)), (0, x115), (0, (-f129)), (0, f129)]) zr_184_239 rfl (by decide) (by omega) rfl ?_
                                  refine zw_42 zr_184_242 ?_
                                  exact zw_less (L := [(2, 69), (0, a0), (0, a1), (0, a2), (0, (i7 + 1)), (9, 0), (9, 0), (9, 0), (9, 0), (9, 0), (9, 0)]) ⟨Or.inr rfl, Or.inr rfl, Or.inr rfl, Or.inr rfl, Or.inr rfl, Or.inl rfl, Or.inl rfl, Or.inl rfl, Or.inl rfl, Or.inl rfl, Or.inl rfl, trivial⟩ (ihlp45_10 ((i7 + 1)) (f136) m135 hIm135 hFm135  km135_70_823 fm135_70 fm135_80 (by omega) (by omega) (by first | exact zFm_n hv0lp45_10 (by omega) (by omega) | exact zFm_s (e := x115) hv0lp45_10 (by omega) (by omega) (by omega) (by omega) (by omega) (by omega) (by omega) po0_r113 po0_r114 (by omega) (by omega) hp0 po0_m133 po0_m135) (by omega) (by omega))
                              · intro h138; omega
                          · intro h139
                            refine zw_push zr_184_143 ?_
                            refine zw_42 zr_184_144 ?_
                            refine zw_10 (L' := [(2, 69), (0, a0), (0, a1), (0, a2), (0, i7), (0, x110), (0, x111), (0, (r113 - r114)), (0, x115), (0, 1), (9, 0)]) zr_184_174 (Nat.le_of_ble_eq_true rfl) rfl ?_
                            refine zw_4 zr_184_176 rfl ?_
                            refine zw_push zr_184_178 ?_
                            refine zw_41_4 zr_184_179 ?_ ?_
                            · intro h140; omega
                            · intro h141
                              refine zw_7 zr_184_182 rfl ?_
                              refine zw_46r (s := 70) zr_184_183 rfl rfl rfl rfl ?_
                              refine zw_push zr_184_186 ?_
                              obtain ⟨f142, ef142⟩ : ∃ v, m8 70 824 = v := ⟨_, rfl⟩
                              have bf142 : 1 ≤ m8 70 824 ∧ m8 70 824 ≤ 1000 := ib_70_wide hIm8 (by omega)
                              rw [ef142] at bf142
                              refine zw_48k (c := 70) (len := 826) zr_184_189 rfl rfl (by omega) (by omega) (show (824 : Int).toNat = 824 by omega) ef142 ?_
                              have qf142 : f142 = F70 824 := by rw [← fm8_70]; exact (ef142).symm
                              refine zw_42 zr_184_190 ?_
                              refine zw_10 (L' := [(2, 69), (0, a0), (0, a1), (0, a2), (0, i7), (0, x110), (0, x111), (0, (r113 - r114)), (0, x115), (0, 1), (0, f142)]) zr_184_211 (Nat.le_of_ble_eq_true rfl) rfl ?_
                              refine zw_7 zr_184_213 rfl ?_
                              refine zw_4 zr_184_214 rfl ?_
                              refine zw_4 zr_184_216 rfl ?_
                              refine zw_4 zr_184_218 rfl ?_
                              refine zw_4 zr_184_220 rfl ?_
                              refine zw_17 zr_184_222 (by omega) ?_
                              refine zw_C zr_184_223 (Or.inl rfl) zm_183 rfl rfl ⟨Nat.le_of_ble_eq_true rfl, Nat.le_of_ble_eq_true rfl, Nat.le_of_ble_eq_true rfl, rfl, by decide⟩ (by omega) (th_183 (d := d - 1) (by omega) hIm8 (a0 := x110) (a1 := x111) (a2 := (f142 - (r113 - r114)))   (F80 := f9)  fm8_80 (by omega) (by omega) (by omega) ) ?_
                              rintro _ m143 ⟨rfl, hIm143, gm143, po0_m143⟩
                              have hFm143 : zFr W_184 m0 m143 := hFm8.trans gm143 rfl
                              have km143_70_823 : m143 70 823 = g0 := (gm143 70 823 rfl).trans km8_70_823
                              have km143_70_824 : m143 70 824 = f142 := (gm143 70 824 rfl).trans ef142
                              have fm143_70 : m143 70 = F70 := (funext fun k => gm143 70 k rfl).trans fm8_70
                              obtain ⟨f144, fm143_80⟩ : ∃ f, m143 80 = f := ⟨_, rfl⟩
                              try rw [fm143_80] at po0_m143
                              show zW E (d) 184 226 [(2, 69), (0, a0), (0, a1), (0, a2), (0, i7), (0, x110), (0, x111), (0, (r113 - r114)), (0, x115), (0, 1), (0, f142)] [] m143 Q
                              refine zw_7 zr_184_226 rfl ?_
                              refine zw_4 zr_184_227 rfl ?_
                              refine zw_4 zr_184_229 rfl ?_
                              refine zw_4 zr_184_231 rfl ?_
                              refine zw_4 zr_184_233 rfl ?_
                              refine zw_17 zr_184_235 (by omega) ?_
                              refine zw_C zr_184_236 (Or.inl rfl) zm_183 rfl rfl ⟨Nat.le_of_ble_eq_true rfl, Nat.le_of_ble_eq_true rfl, Nat.le_of_ble_eq_true rfl, rfl, by decide⟩ (by omega) (th_183 (d := d - 1) (by omega) hIm143 (a0 := x111) (a1 := x110) (a2 := ((r113 - r114) - 1))   (F80 := f144)  fm143_80 (by omega) (by omega) (by omega) ) ?_
                              rintro _ m145 ⟨rfl, hIm145, gm145, po0_m145⟩
                              have hFm145 : zFr W_184 m0 m145 := hFm143.trans gm145 rfl
                              have km145_70_823 : m145 70 823 = g0 := (gm145 70 823 rfl).trans km143_70_823
                              have km145_70_824 : m145 70 824 = f142 := (gm145 70 824 rfl).trans km143_70_824
                              have fm145_70 : m145 70 = F70 := (funext fun k => gm145 70 k rfl).trans fm143_70
                              obtain ⟨f146, fm145_80⟩ : ∃ f, m145 80 = f := ⟨_, rfl⟩
                              try rw [fm145_80] at po0_m145
                              show zW E (d) 184 239 [(2, 69), (0, a0), (0, a1), (0, a2), (0, i7), (0, x110), (0, x111), (0, (r113 - r114)), (0, x115), (0, 1), (0, f142)] [] m145 Q
                              refine zw_15 (c := 1) (L' := [(2, 69), (0, a0), (0, a1), (0, a2), (0, (i7 + 1)), (0, x110), (0, x111), (0, (r113 - r114)), (0, x115), (0, 1), (0, f142)]) zr_184_239 rfl (by decide) (by omega) rfl ?_
                              refine zw_42 zr_184_242 ?_
                              exact zw_less (L := [(2, 69), (0, a0), (0, a1), (0, a2), (0, (i7 + 1)), (9, 0), (9, 0), (9, 0), (9, 0), (9, 0), (9, 0)]) ⟨Or.inr rfl, Or.inr rfl, Or.inr rfl, Or.inr rfl, Or.inr rfl, Or.inl rfl, Or.inl rfl, Or.inl rfl, Or.inl rfl, Or.inl rfl, Or.inl rfl, trivial⟩ (ihlp45_10 ((i7 + 1)) (f146) m145 hIm145 hFm145  km145_70_823 fm145_70 fm145_80 (by omega) (by omega) (by first | exact zFm_n hv0lp45_10 (by omega) (by omega) | exact zFm_s (e := x115) hv0lp45_10 (by omega) (by omega) (by omega) (by omega) (by omega) (by omega) (by omega) po0_r113 po0_r114 (by omega) (by omega) hp0 po0_m143 po0_m145) (by omega) (by omega))
        exact lp45_10 _ (0) (f3) m2 hIm2 hFm2  km2_70_823 fm2_70 fm2_80 (by omega) (by omega) (zFm_0 hv0lp3_4 (by omega)) (by omega) (Nat.lt_succ_self _)
      · intro h149
        refine zw_7 zr_184_10 rfl ?_
        refine zw_46r (s := 80) zr_184_11 rfl rfl rfl rfl ?_
        refine zw_4 zr_184_14 rfl ?_
        refine zw_4 zr_184_16 rfl ?_
        refine zw_push zr_184_18 ?_
        refine zw_19 zr_184_20 (by omega) (by omega) (by omega) (by omega) ?_
        refine zw_4 zr_184_21 rfl ?_
        refine zw_push zr_184_23 ?_
        refine zw_20 zr_184_25 (by omega) (by omega) (by omega) (by omega) ?_
        refine zw_41_4 zr_184_26 ?_ ?_
        · intro h150
          refine zw_push zr_184_33 ?_
          refine zw_49 (c := 80) (len := 100) zr_184_35 rfl rfl (by omega) (by omega) ?_
          intro m151 em151
          have hIm151 : zInv m151 := by rw [em151]; exact iu_80 hIm2 (by omega)
          have hFm151 : zFr W_184 m0 m151 := by rw [em151]; exact hFm2.any rfl
          have km151_70_823 : m151 70 823 = g0 := by rw [em151, zUp_ne (by omega)]; exact km2_70_823
          have fm151_70 : m151 70 = F70 := by rw [em151, zUp_fn (by decide)]; exact fm2_70
          have fm151_80 : m151 80 = zPt f3 ((i1).toNat) 100000000 := by rw [em151]; exact (zUp_ff (m := m2)).trans (congrArg (fun q => zPt q ((i1).toNat) 100000000) fm2_80)
          clear em151
          refine zw_15 (c := 1) (L' := [(2, 69), (0, a0), (0, a1), (0, a2), (0, (i1 + 1)), (9, 0), (9, 0), (9, 0), (9, 0), (9, 0), (9, 0)]) zr_184_36 rfl (by decide) (by omega) rfl ?_
          refine zw_42 zr_184_39 ?_
          exact zw_less (L := [(2, 69), (0, a0), (0, a1), (0, a2), (0, (i1 + 1)), (9, 0), (9, 0), (9, 0), (9, 0), (9, 0), (9, 0)]) ⟨Or.inr rfl, Or.inr rfl, Or.inr rfl, Or.inr rfl, Or.inr rfl, Or.inl rfl, Or.inl rfl, Or.inl rfl, Or.inl rfl, Or.inl rfl, Or.inl rfl, trivial⟩ (ihlp3_4 ((i1 + 1)) (zPt f3 ((i1).toNat) 100000000) m151 hIm151 hFm151  km151_70_823 fm151_70 fm151_80 (by omega) (by omega) (zFz_s hv0lp3_4 (by omega) (by omega)) (by omega))
        · intro h153
          refine zw_push zr_184_29 ?_
          refine zw_42 zr_184_30 ?_
          refine zw_49 (c := 80) (len := 100) zr_184_35 rfl rfl (by omega) (by omega) ?_
          intro m154 em154
          have hIm154 : zInv m154 := by rw [em154]; exact iu_80 hIm2 (by omega)
          have hFm154 : zFr W_184 m0 m154 := by rw [em154]; exact hFm2.any rfl
          have km154_70_823 : m154 70 823 = g0 := by rw [em154, zUp_ne (by omega)]; exact km2_70_823
          have fm154_70 : m154 70 = F70 := by rw [em154, zUp_fn (by decide)]; exact fm2_70
          have fm154_80 : m154 80 = zPt f3 ((i1).toNat) 0 := by rw [em154]; exact (zUp_ff (m := m2)).trans (congrArg (fun q => zPt q ((i1).toNat) 0) fm2_80)
          clear em154
          refine zw_15 (c := 1) (L' := [(2, 69), (0, a0), (0, a1), (0, a2), (0, (i1 + 1)), (9, 0), (9, 0), (9, 0), (9, 0), (9, 0), (9, 0)]) zr_184_36 rfl (by decide) (by omega) rfl ?_
          refine zw_42 zr_184_39 ?_
          exact zw_less (L := [(2, 69), (0, a0), (0, a1), (0, a2), (0, (i1 + 1)), (9, 0), (9, 0), (9, 0), (9, 0), (9, 0), (9, 0)]) ⟨Or.inr rfl, Or.inr rfl, Or.inr rfl, Or.inr rfl, Or.inr rfl, Or.inl rfl, Or.inl rfl, Or.inl rfl, Or.inl rfl, Or.inl rfl, Or.inl rfl, trivial⟩ (ihlp3_4 ((i1 + 1)) (zPt f3 ((i1).toNat) 0) m154 hIm154 hFm154  km154_70_823 fm154_70 fm154_80 (by omega) (by omega) (zFz_s hv0lp3_4 (by omega) (by omega)) (by omega))
  exact lp3_4 _ (0) (F80) m0 hI0 hF0  hg0 hG70 hG80 (by omega) (by omega) (zFz_0) (Nat.lt_succ_self _)

abbrev W_185 : List (Nat × Nat) := [(80, 1000)]
set_option maxHeartbeats 8000000 in
theorem th_185 {E : zE} {d : Nat} {m0 : zM} {g0 : Int} {F70 : Nat → Int} (hd : 4 ≤ d) (hI0 : zInv m0) (hg0 : m0 70 823 = g0) (hG70 : m0 70 = F70) (hp0 : zNe F70 g0) : zC E d 185 [(2, 69)] m0 (fun v m' => ∃ r : Int, v = (0, r) ∧ 0 ≤ r ∧ r ≤ 1 ∧ zInv m' ∧ zFr W_185 m0 m' ∧ (zQu (zEr F70 g0 (-1) (-1) (-1)) r)) := by
  have hF0 : zFr W_185 m0 m0 := zFr.rfl
  have bg0 : 0 ≤ m0 70 823 ∧ m0 70 823 ≤ 60 := ib_70_meetings hI0 (by omega)
  rw [hg0] at bg0
  generalize hQ : (fun (v : zV) (m' : zM) => ∃ r : Int, v = (0, r) ∧ 0 ≤ r ∧ r ≤ 1 ∧ zInv m' ∧ zFr W_185 m0 m' ∧ (zQu (zEr F70 g0 (-1) (-1) (-1)) r)) = Q
  show zW E d 185 0 [(2, 69)] [] m0 Q
  refine zw_7 zr_185_0 rfl ?_
  refine zw_push zr_185_1 ?_
  refine zw_push zr_185_2 ?_
  refine zw_push zr_185_3 ?_
  refine zw_C zr_185_4 (Or.inl rfl) zm_184 rfl rfl ⟨Nat.le_of_ble_eq_true rfl, Nat.le_of_ble_eq_true rfl, Nat.le_of_ble_eq_true rfl, rfl, by decide⟩ (by omega) (th_184 (d := d - 1) (by omega) hI0 (a0 := (-1)) (a1 := (-1)) (a2 := (-1)) (g0 := g0)  (F70 := F70) (F80 := m0 80) hg0 hG70 rfl (by omega) (by omega) (by omega) (hp0)) ?_
  rintro _ m2 ⟨r3, rfl, hr3a, hr3b, hIm2, gm2, po0_r3⟩
  have hFm2 : zFr W_185 m0 m2 := hF0.trans gm2 rfl
  have km2_70_823 : m2 70 823 = g0 := (gm2 70 823 rfl).trans hg0
  have fm2_70 : m2 70 = F70 := (funext fun k => gm2 70 k rfl).trans hG70
  show zW E (d) 185 7 [(2, 69)] [(0, r3)] m2 Q
  refine zw_40_1 zr_185_7 ?_ ?_
  · intro h4
    refine zw_push zr_185_14 ?_
    refine zw_R zr_185_15 (by decide) zm_185 (v := (0, 1)) rfl ?_
    rw [← hQ]; exact ⟨_, rfl, by omega, by omega, hIm2, hFm2, zAg2_q (zFw_a (zEr_w (fun i hi => ⟨by rw [← hG70]; exact ib_70_m1 hI0 (by omega), by rw [← hG70]; exact ib_70_m2 hI0 (by omega)⟩) (fun k hk => by rw [← hG70]; exact ib_70_shape hI0 (by omega)) (by rw [← hG70]; exact ib_70_wide hI0 (k := 824) rfl) (by rw [← hG70]; exact ib_70_even hI0 (k := 825) rfl)) po0_r3) (by omega)⟩
  · intro h6
    refine zw_push zr_185_10 ?_
    refine zw_42 zr_185_11 ?_
    refine zw_R zr_185_15 (by decide) zm_185 (v := (0, 0)) rfl ?_
    rw [← hQ]; exact ⟨_, rfl, by omega, by omega, hIm2, hFm2, zAg2_q (zFw_a (zEr_w (fun i hi => ⟨by rw [← hG70]; exact ib_70_m1 hI0 (by omega), by rw [← hG70]; exact ib_70_m2 hI0 (by omega)⟩) (fun k hk => by rw [← hG70]; exact ib_70_shape hI0 (by omega)) (by rw [← hG70]; exact ib_70_wide hI0 (k := 824) rfl) (by rw [← hG70]; exact ib_70_even hI0 (k := 825) rfl)) po0_r3) (by omega)⟩

abbrev W_4_61 : List (Nat × Nat) := [(61, 1000)]
set_option maxHeartbeats 8000000 in
theorem th_4_61 {E : zE} {d : Nat} {m0 : zM} {a0 : Int} {F61 : Nat → Int} (hd : 1 ≤ d) (hI0 : zInv m0) (hG61 : m0 61 = F61) (ha0 : 0 ≤ a0 ∧ a0 ≤ 0) : zC E d 4 [(2, 61), (0, a0)] m0 (fun v m' => v = (9, 0) ∧ zInv m' ∧ zFr W_4_61 m0 m' ∧ (zFil (m' 61) 10 a0)) := by
  have hF0 : zFr W_4_61 m0 m0 := zFr.rfl
  generalize hQ : (fun (v : zV) (m' : zM) => v = (9, 0) ∧ zInv m' ∧ zFr W_4_61 m0 m' ∧ (zFil (m' 61) 10 a0)) = Q
  show zW E d 4 0 [(2, 61), (0, a0), (9, 0), (9, 0)] [] m0 Q
  refine zw_push zr_4_0 ?_
  refine zw_9 (L' := [(2, 61), (0, a0), (0, 0), (9, 0)]) zr_4_1 (Nat.le_of_ble_eq_true rfl) rfl ?_
  refine zw_7 zr_4_2 rfl ?_
  refine zw_101 (c := 61) (len := 10) zr_4_3 rfl rfl (by decide) ?_
  refine zw_9 (L' := [(2, 61), (0, a0), (0, 0), (0, 10)]) zr_4_4 (Nat.le_of_ble_eq_true rfl) rfl ?_
  have lp5_4 : ∀ (nlp5_4 : Nat) (i1 : Int) (f3 : Nat → Int) (m2 : zM), zInv m2 → zFr W_4_61 m0 m2 → m2 61 = f3 → 0 ≤ i1 → i1 ≤ 10 → (zFil f3 i1 a0) → (10 - i1).toNat < nlp5_4 → zW E (d) 4 5 [(2, 61), (0, a0), (0, i1), (0, 10)] [] m2 Q := by
    intro nlp5_4
    induction nlp5_4 with
    | zero =>
      intros
      exact absurd (by assumption : _ < 0) (Nat.not_lt_zero _)
    | succ nlp5_4 ihlp5_4 =>
      intro i1 f3 m2 hIm2 hFm2 fm2_61 li1 ui1 hv0lp5_4 hmlp5_4
      refine zw_3 zr_4_5 rfl ?_
      refine zw_3 zr_4_6 rfl ?_
      refine zw_41_3 zr_4_7 ?_ ?_
      · intro h6
        refine zw_R zr_4_20 (by decide) zm_4 (v := (9, 0)) rfl ?_
        rw [← hQ]; exact ⟨rfl, hIm2, hFm2, by rw [fm2_61]; exact zFil_le hv0lp5_4 (by omega)⟩
      · intro h8
        refine zw_7 zr_4_10 rfl ?_
        refine zw_3 zr_4_11 rfl ?_
        refine zw_3 zr_4_12 rfl ?_
        refine zw_49 (c := 61) (len := 10) zr_4_13 rfl rfl (by omega) (by omega) ?_
        intro m9 em9
        have hIm9 : zInv m9 := by rw [em9]; exact iu_61 hIm2 (by omega)
        have hFm9 : zFr W_4_61 m0 m9 := by rw [em9]; exact hFm2.any rfl
        have fm9_61 : m9 61 = zPt f3 ((i1).toNat) a0 := by rw [em9]; exact (zUp_ff (m := m2)).trans (congrArg (fun q => zPt q ((i1).toNat) a0) fm2_61)
        clear em9
        refine zw_15 (c := 1) (L' := [(2, 61), (0, a0), (0, (i1 + 1)), (0, 10)]) zr_4_14 rfl (by decide) (by omega) rfl ?_
        refine zw_42 zr_4_17 ?_
        exact zw_less (L := [(2, 61), (0, a0), (0, (i1 + 1)), (0, 10)]) ⟨Or.inr rfl, Or.inr rfl, Or.inr rfl, Or.inr rfl, trivial⟩ (ihlp5_4 ((i1 + 1)) (zPt f3 ((i1).toNat) a0) m9 hIm9 hFm9   fm9_61 (by omega) (by omega) (zFil_put hv0lp5_4 (by omega)) (by omega))
  exact lp5_4 _ (0) (F61) m0 hI0 hF0  hG61 (by omega) (by omega) (zFil_0) (Nat.lt_succ_self _)

abbrev W_66 : List (Nat × Nat) := [(61, 1000)]
set_option maxHeartbeats 8000000 in
theorem th_66 {E : zE} {d : Nat} {m0 : zM} {a0 : Int} {g0 : Int} {F61 : Nat → Int} {F6 : Nat → Int} {F7 : Nat → Int} (hd : 2 ≤ d) (hI0 : zInv m0) (hg0 : m0 1 1 = g0) (hG61 : m0 61 = F61) (hG6 : m0 6 = F6) (hG7 : m0 7 = F7) (ha0 : 0 ≤ a0 ∧ a0 ≤ 1152921504606846975) : zC E d 66 [(2, 60), (1, a0)] m0 (fun v m' => v = (9, 0) ∧ zInv m' ∧ zFr W_66 m0 m' ∧ (zLk (m' 61) F6 F7 a0 g0)) := by
  have hF0 : zFr W_66 m0 m0 := zFr.rfl
  have bg0 := ib_1_1 hI0
  rw [hg0] at bg0
  generalize hQ : (fun (v : zV) (m' : zM) => v = (9, 0) ∧ zInv m' ∧ zFr W_66 m0 m' ∧ (zLk (m' 61) F6 F7 a0 g0)) = Q
  show zW E d 66 0 [(2, 60), (1, a0), (9, 0), (9, 0)] [] m0 Q
  refine zw_7 zr_66_0 rfl ?_
  refine zw_46r (s := 61) zr_66_1 rfl rfl rfl rfl ?_
  refine zw_push zr_66_4 ?_
  refine zw_C zr_66_5 (Or.inr rfl) zm_4 rfl rfl ⟨Nat.le_of_ble_eq_true rfl, Nat.le_of_ble_eq_true rfl, Nat.le_of_ble_eq_true rfl, rfl, by decide⟩ (by omega) (th_4_61 (d := d - 1) (by omega) hI0 (a0 := 0)   (F61 := F61)  hG61 (by omega) ) ?_
  rintro _ m1 ⟨rfl, hIm1, gm1, po0_m1⟩
  have hFm1 : zFr W_66 m0 m1 := hF0.trans gm1 rfl
  have km1_1_1 : m1 1 1 = g0 := (gm1 1 1 rfl).trans hg0
  obtain ⟨f2, fm1_61⟩ : ∃ f, m1 61 = f := ⟨_, rfl⟩
  try rw [fm1_61] at po0_m1
  have fm1_6 : m1 6 = F6 := (funext fun k => gm1 6 k rfl).trans hG6
  have fm1_7 : m1 7 = F7 := (funext fun k => gm1 7 k rfl).trans hG7
  show zW E (d) 66 8 [(2, 60), (1, a0), (9, 0), (9, 0)] [] m1 Q
  refine zw_push zr_66_8 ?_
  refine zw_9 (L' := [(2, 60), (1, a0), (9, 0), (0, 0)]) zr_66_9 (Nat.le_of_ble_eq_true rfl) rfl ?_
  have lp10_6 : ∀ (nlp10_6 : Nat) (i3 : Int) (f5 : Nat → Int) (m4 : zM), zInv m4 → zFr W_66 m0 m4 → m4 1 1 = g0 → m4 61 = f5 → m4 6 = F6 → m4 7 = F7 → 0 ≤ i3 → i3 ≤ 60 → (zLk f5 F6 F7 a0 i3) → (i3 ≤ g0) → (60 - i3).toNat < nlp10_6 → zW E (d) 66 10 [(2, 60), (1, a0), (9, 0), (0, i3)] [] m4 Q := by
    intro nlp10_6
    induction nlp10_6 with
    | zero =>
      intros
      exact absurd (by assumption : _ < 0) (Nat.not_lt_zero _)
    | succ nlp10_6 ihlp10_6 =>
      intro i3 f5 m4 hIm4 hFm4 km4_1_1 fm4_61 fm4_6 fm4_7 li3 ui3 hv0lp10_6 hv1lp10_6 hmlp10_6
      refine zw_3 zr_66_10 rfl ?_
      refine zw_7 zr_66_11 rfl ?_
      refine zw_46r (s := 1) zr_66_12 rfl rfl rfl rfl ?_
      refine zw_46i zr_66_15 km4_1_1 rfl rfl rfl ?_
      refine zw_41_3 zr_66_18 ?_ ?_
      · intro h8
        refine zw_R zr_66_93 (by decide) zm_66 (v := (9, 0)) rfl ?_
        rw [← hQ]; exact ⟨rfl, hIm4, hFm4, by rw [fm4_61, show g0 = i3 by omega]; exact hv0lp10_6⟩
      · intro h10
        refine zw_5 zr_66_21 rfl ?_
        refine zw_3 zr_66_22 rfl ?_
        refine zw_34p zr_66_23 (by omega) (by omega) ?_
        intro x11 hx11c hx11a hx11b
        refine zw_push zr_66_24 ?_
        refine zw_30o zr_66_25 (by omega) ?_
        refine zw_push zr_66_26 ?_
        refine zw_39_1 zr_66_27 zr_66_28 ?_ ?_
        · intro h12
          refine zw_15 (c := 1) (L' := [(2, 60), (1, a0), (9, 0), (0, (i3 + 1))]) zr_66_87 rfl (by decide) (by omega) rfl ?_
          refine zw_42 zr_66_90 ?_
          exact zw_less (L := [(2, 60), (1, a0), (9, 0), (0, (i3 + 1))]) ⟨Or.inr rfl, Or.inr rfl, Or.inl rfl, Or.inr rfl, trivial⟩ (ihlp10_6 ((i3 + 1)) (f5) m4 hIm4 hFm4  km4_1_1 fm4_61 fm4_6 fm4_7 (by omega) (by omega) (by first | exact zLk_put hv0lp10_6 (by assumption) (by assumption) (by assumption) (by assumption) (by assumption) (by assumption) (by omega) (by omega) (by omega) (by omega) (by omega) (by omega) | exact zLk_skip hv0lp10_6 (by omega) (by omega)) (by omega) (by omega))
        · intro h14
          refine zw_7 zr_66_31 rfl ?_
          refine zw_46r (s := 61) zr_66_32 rfl rfl rfl rfl ?_
          refine zw_7 zr_66_35 rfl ?_
          refine zw_46r (s := 1) zr_66_36 rfl rfl rfl rfl ?_
          refine zw_46r (s := 6) zr_66_39 rfl rfl rfl rfl ?_
          refine zw_3 zr_66_42 rfl ?_
          refine zw_48 (c := 6) (len := 60) zr_66_43 rfl rfl (by omega) (by omega) ?_
          intro x15 ex15
          have bx15 := ib_6 hIm4 (k := (i3).toNat) (by omega)
          rw [← ex15] at bx15
          have qx15 : x15 = F6 (i3).toNat := by rw [← fm4_6]; exact ex15
          clear ex15
          refine zw_45 zr_66_44 ⟨rfl, rfl⟩ ?_
          refine zw_48 (c := 61) (len := 10) zr_66_45 rfl rfl (by omega) (by omega) ?_
          intro x16 ex16
          have bx16 := ib_61 hIm4 (k := (x15).toNat) (by omega)
          rw [← ex16] at bx16
          have qx16 : x16 = f5 (x15).toNat := by rw [← fm4_61]; exact ex16
          clear ex16
          refine zw_push zr_66_46 ?_
          refine zw_7 zr_66_47 rfl ?_
          refine zw_46r (s := 1) zr_66_48 rfl rfl rfl rfl ?_
          refine zw_46r (s := 7) zr_66_51 rfl rfl rfl rfl ?_
          refine zw_3 zr_66_54 rfl ?_
          refine zw_48 (c := 7) (len := 60) zr_66_55 rfl rfl (by omega) (by omega) ?_
          intro x17 ex17
          have bx17 := ib_7 hIm4 (k := (i3).toNat) (by omega)
          rw [← ex17] at bx17
          have qx17 : x17 = F7 (i3).toNat := by rw [← fm4_7]; exact ex17
          clear ex17
          refine zw_24p zr_66_56 (by omega) ?_
          intro x18 ex18 hx18a hx18b
          refine zw_22p zr_66_57 (by omega) (by omega) ?_
          intro x19 ex19 hx19a hx19b
          refine zw_49 (c := 61) (len := 10) zr_66_58 rfl rfl (by omega) (by omega) ?_
          intro m20 em20
          have hIm20 : zInv m20 := by rw [em20]; exact iu_61 hIm4 (by omega)
          have hFm20 : zFr W_66 m0 m20 := by rw [em20]; exact hFm4.any rfl
          have km20_1_1 : m20 1 1 = g0 := by rw [em20, zUp_ne (by omega)]; exact km4_1_1
          have fm20_61 : m20 61 = zPt f5 ((x15).toNat) x19 := by rw [em20]; exact (zUp_ff (m := m4)).trans (congrArg (fun q => zPt q ((x15).toNat) x19) fm4_61)
          have fm20_6 : m20 6 = F6 := by rw [em20, zUp_fn (by decide)]; exact fm4_6
          have fm20_7 : m20 7 = F7 := by rw [em20, zUp_fn (by decide)]; exact fm4_7
          clear em20
          refine zw_7 zr_66_59 rfl ?_
          refine zw_46r (s := 61) zr_66_60 rfl rfl rfl rfl ?_
          refine zw_7 zr_66_63 rfl ?_
          refine zw_46r (s := 1) zr_66_64 rfl rfl rfl rfl ?_
          refine zw_46r (s := 7) zr_66_67 rfl rfl rfl rfl ?_
          refine zw_3 zr_66_70 rfl ?_
          refine zw_48 (c := 7) (len := 60) zr_66_71 rfl rfl (by omega) (by omega) ?_
          intro x21 ex21
          have bx21 := ib_7 hIm20 (k := (i3).toNat) (by omega)
          rw [← ex21] at bx21
          have qx21 : x21 = F7 (i3).toNat := by rw [← fm20_7]; exact ex21
          clear ex21
          refine zw_45 zr_66_72 ⟨rfl, rfl⟩ ?_
          refine zw_48 (c := 61) (len := 10) zr_66_73 rfl rfl (by omega) (by omega) ?_
          intro x22 ex22
          have bx22 := ib_61 hIm20 (k := (x21).toNat) (by omega)
          rw [← ex22] at bx22
          have qx22 : x22 = (zPt f5 ((x15).toNat) x19) (x21).toNat := by rw [← fm20_61]; exact ex22
          clear ex22
          refine zw_push zr_66_74 ?_
          refine zw_7 zr_66_75 rfl ?_
          refine zw_46r (s := 1) zr_66_76 rfl rfl rfl rfl ?_
          refine zw_46r (s := 6) zr_66_79 rfl rfl rfl rfl ?_
          refine zw_3 zr_66_82 rfl ?_
          refine zw_48 (c := 6) (len := 60) zr_66_83 rfl rfl (by omega) (by omega) ?_
          intro x23 ex23
          have bx23 := ib_6 hIm20 (k := (i3).toNat) (by omega)
          rw [← ex23] at bx23
          have qx23 : x23 = F6 (i3).toNat := by rw [← fm20_6]; exact ex23
          clear ex23
          refine zw_24p zr_66_84 (by omega) ?_
          intro x24 ex24 hx24a hx24b
          refine zw_22p zr_66_85 (by omega) (by omega) ?_
          intro x25 ex25 hx25a hx25b
          refine zw_49 (c := 61) (len := 10) zr_66_86 rfl rfl (by omega) (by omega) ?_
          intro m26 em26
          have hIm26 : zInv m26 := by rw [em26]; exact iu_61 hIm20 (by omega)
          have hFm26 : zFr W_66 m0 m26 := by rw [em26]; exact hFm20.any rfl
          have km26_1_1 : m26 1 1 = g0 := by rw [em26, zUp_ne (by omega)]; exact km20_1_1
          have fm26_61 : m26 61 = zPt (zPt f5 ((x15).toNat) x19) ((x21).toNat) x25 := by rw [em26]; exact (zUp_ff (m := m20)).trans (congrArg (fun q => zPt q ((x21).toNat) x25) fm20_61)
          have fm26_6 : m26 6 = F6 := by rw [em26, zUp_fn (by decide)]; exact fm20_6
          have fm26_7 : m26 7 = F7 := by rw [em26, zUp_fn (by decide)]; exact fm20_7
          clear em26
          refine zw_15 (c := 1) (L' := [(2, 60), (1, a0), (9, 0), (0, (i3 + 1))]) zr_66_87 rfl (by decide) (by omega) rfl ?_
          refine zw_42 zr_66_90 ?_
          exact zw_less (L := [(2, 60), (1, a0), (9, 0), (0, (i3 + 1))]) ⟨Or.inr rfl, Or.inr rfl, Or.inl rfl, Or.inr rfl, trivial⟩ (ihlp10_6 ((i3 + 1)) (zPt (zPt f5 ((x15).toNat) x19) ((x21).toNat) x25) m26 hIm26 hFm26  km26_1_1 fm26_61 fm26_6 fm26_7 (by omega) (by omega) (by first | exact zLk_put hv0lp10_6 (by assumption) (by assumption) (by assumption) (by assumption) (by assumption) (by assumption) (by omega) (by omega) (by omega) (by omega) (by omega) (by omega) | exact zLk_skip hv0lp10_6 (by omega) (by omega)) (by omega) (by omega))
  exact lp10_6 _ (0) (f2) m1 hIm1 hFm1  km1_1_1 fm1_61 fm1_6 fm1_7 (by omega) (by omega) (zLk_0 (by assumption)) (by omega) (Nat.lt_succ_self _)

abbrev W_4_62 : List (Nat × Nat) := [(62, 1000)]
set_option maxHeartbeats 8000000 in
theorem th_4_62 {E : zE} {d : Nat} {m0 : zM} {a0 : Int} {F62 : Nat → Int} (hd : 1 ≤ d) (hI0 : zInv m0) (hG62 : m0 62 = F62) (ha0 : (-1) ≤ a0 ∧ a0 ≤ (-1)) : zC E d 4 [(2, 62), (0, a0)] m0 (fun v m' => v = (9, 0) ∧ zInv m' ∧ zFr W_4_62 m0 m' ∧ (zFil (m' 62) 10 a0)) := by
  have hF0 : zFr W_4_62 m0 m0 := zFr.rfl
  generalize hQ : (fun (v : zV) (m' : zM) => v = (9, 0) ∧ zInv m' ∧ zFr W_4_62 m0 m' ∧ (zFil (m' 62) 10 a0)) = Q
  show zW E d 4 0 [(2, 62), (0, a0), (9, 0), (9, 0)] [] m0 Q
  refine zw_push zr_4_0 ?_
  refine zw_9 (L' := [(2, 62), (0, a0), (0, 0), (9, 0)]) zr_4_1 (Nat.le_of_ble_eq_true rfl) rfl ?_
  refine zw_7 zr_4_2 rfl ?_
  refine zw_101 (c := 62) (len := 10) zr_4_3 rfl rfl (by decide) ?_
  refine zw_9 (L' := [(2, 62), (0, a0), (0, 0), (0, 10)]) zr_4_4 (Nat.le_of_ble_eq_true rfl) rfl ?_
  have lp5_4 : ∀ (nlp5_4 : Nat) (i1 : Int) (f3 : Nat → Int) (m2 : zM), zInv m2 → zFr W_4_62 m0 m2 → m2 62 = f3 → 0 ≤ i1 → i1 ≤ 10 → (zFil f3 i1 a0) → (10 - i1).toNat < nlp5_4 → zW E (d) 4 5 [(2, 62), (0, a0), (0, i1), (0, 10)] [] m2 Q := by
    intro nlp5_4
    induction nlp5_4 with
    | zero =>
      intros
      exact absurd (by assumption : _ < 0) (Nat.not_lt_zero _)
    | succ nlp5_4 ihlp5_4 =>
      intro i1 f3 m2 hIm2 hFm2 fm2_62 li1 ui1 hv0lp5_4 hmlp5_4
      refine zw_3 zr_4_5 rfl ?_
      refine zw_3 zr_4_6 rfl ?_
      refine zw_41_3 zr_4_7 ?_ ?_
      · intro h6
        refine zw_R zr_4_20 (by decide) zm_4 (v := (9, 0)) rfl ?_
        rw [← hQ]; exact ⟨rfl, hIm2, hFm2, by rw [fm2_62]; exact zFil_le hv0lp5_4 (by omega)⟩
      · intro h8
        refine zw_7 zr_4_10 rfl ?_
        refine zw_3 zr_4_11 rfl ?_
        refine zw_3 zr_4_12 rfl ?_
        refine zw_49 (c := 62) (len := 10) zr_4_13 rfl rfl (by omega) (by omega) ?_
        intro m9 em9
        have hIm9 : zInv m9 := by rw [em9]; exact iu_62 hIm2 (by omega)
        have hFm9 : zFr W_4_62 m0 m9 := by rw [em9]; exact hFm2.any rfl
        have fm9_62 : m9 62 = zPt f3 ((i1).toNat) a0 := by rw [em9]; exact (zUp_ff (m := m2)).trans (congrArg (fun q => zPt q ((i1).toNat) a0) fm2_62)
        clear em9
        refine zw_15 (c := 1) (L' := [(2, 62), (0, a0), (0, (i1 + 1)), (0, 10)]) zr_4_14 rfl (by decide) (by omega) rfl ?_
        refine zw_42 zr_4_17 ?_
        exact zw_less (L := [(2, 62), (0, a0), (0, (i1 + 1)), (0, 10)]) ⟨Or.inr rfl, Or.inr rfl, Or.inr rfl, Or.inr rfl, trivial⟩ (ihlp5_4 ((i1 + 1)) (zPt f3 ((i1).toNat) a0) m9 hIm9 hFm9   fm9_62 (by omega) (by omega) (zFil_put hv0lp5_4 (by omega)) (by omega))
  exact lp5_4 _ (0) (F62) m0 hI0 hF0  hG62 (by omega) (by omega) (zFil_0) (Nat.lt_succ_self _)

abbrev W_67 : List (Nat × Nat) := [(62, 1000)]
set_option maxHeartbeats 8000000 in
theorem th_67 {E : zE} {d : Nat} {m0 : zM} {a0 : Int} {g0 : Int} {F61 : Nat → Int} {F62 : Nat → Int} (hd : 2 ≤ d) (hI0 : zInv m0) (hg0 : m0 1 0 = g0) (hG61 : m0 61 = F61) (hG62 : m0 62 = F62) (ha0 : 0 ≤ a0 ∧ a0 ≤ 9) : zC E d 67 [(2, 60), (0, a0)] m0 (fun v m' => v = (9, 0) ∧ zInv m' ∧ zFr W_67 m0 m' ∧ (zFa (edk F61 g0) a0 g0 (m' 62))) := by
  have hF0 : zFr W_67 m0 m0 := zFr.rfl
  have bg0 := ib_1_0 hI0
  rw [hg0] at bg0
  generalize hQ : (fun (v : zV) (m' : zM) => v = (9, 0) ∧ zInv m' ∧ zFr W_67 m0 m' ∧ (zFa (edk F61 g0) a0 g0 (m' 62))) = Q
  show zW E d 67 0 [(2, 60), (0, a0), (9, 0), (9, 0), (9, 0), (9, 0), (9, 0)] [] m0 Q
  refine zw_7 zr_67_0 rfl ?_
  refine zw_46r (s := 62) zr_67_1 rfl rfl rfl rfl ?_
  refine zw_push zr_67_4 ?_
  refine zw_C zr_67_5 (Or.inr rfl) zm_4 rfl rfl ⟨Nat.le_of_ble_eq_true rfl, Nat.le_of_ble_eq_true rfl, Nat.le_of_ble_eq_true rfl, rfl, by decide⟩ (by omega) (th_4_62 (d := d - 1) (by omega) hI0 (a0 := (-1))   (F62 := F62)  hG62 (by omega) ) ?_
  rintro _ m1 ⟨rfl, hIm1, gm1, po0_m1⟩
  have hFm1 : zFr W_67 m0 m1 := hF0.trans gm1 rfl
  have km1_1_0 : m1 1 0 = g0 := (gm1 1 0 rfl).trans hg0
  have fm1_61 : m1 61 = F61 := (funext fun k => gm1 61 k rfl).trans hG61
  obtain ⟨f2, fm1_62⟩ : ∃ f, m1 62 = f := ⟨_, rfl⟩
  try rw [fm1_62] at po0_m1
  show zW E (d) 67 8 [(2, 60), (0, a0), (9, 0), (9, 0), (9, 0), (9, 0), (9, 0)] [] m1 Q
  refine zw_push zr_67_8 ?_
  refine zw_9 (L' := [(2, 60), (0, a0), (0, 0), (9, 0), (9, 0), (9, 0), (9, 0)]) zr_67_9 (Nat.le_of_ble_eq_true rfl) rfl ?_
  refine zw_push zr_67_10 ?_
  refine zw_3 zr_67_11 rfl ?_
  refine zw_24p zr_67_12 (by omega) ?_
  intro x3 ex3 hx3a hx3b
  refine zw_9 (L' := [(2, 60), (0, a0), (0, 0), (0, x3), (9, 0), (9, 0), (9, 0)]) zr_67_13 (Nat.le_of_ble_eq_true rfl) rfl ?_
  refine zw_push zr_67_14 ?_
  refine zw_10 (L' := [(2, 60), (0, a0), (0, 0), (0, x3), (0, 0), (9, 0), (9, 0)]) zr_67_15 (Nat.le_of_ble_eq_true rfl) rfl ?_
  have lp17_9 : ∀ (nlp17_9 : Nat) (i4 i5 i6 : Int) (f8 : Nat → Int) (m7 : zM), zInv m7 → zFr W_67 m0 m7 → m7 1 0 = g0 → m7 61 = F61 → m7 62 = f8 → 0 ≤ i4 → i4 ≤ 1023 → 0 ≤ i5 → i5 ≤ 1023 → 0 ≤ i6 → i6 ≤ 10 → (zS1 (edk F61 g0) a0 i6 i4 i5) → (zS2 (edk F61 g0) a0 i6 g0 f8) → (10 - i6).toNat < nlp17_9 → zW E (d) 67 17 [(2, 60), (0, a0), (0, i4), (0, i5), (0, i6), (9, 0), (9, 0)] [] m7 Q := by
    intro nlp17_9
    induction nlp17_9 with
    | zero =>
      intros
      exact absurd (by assumption : _ < 0) (Nat.not_lt_zero _)
    | succ nlp17_9 ihlp17_9 =>
      intro i4 i5 i6 f8 m7 hIm7 hFm7 km7_1_0 fm7_61 fm7_62 li4 ui4 li5 ui5 li6 ui6 hv0lp17_9 hv1lp17_9 hmlp17_9
      refine zw_4 zr_67_17 rfl ?_
      refine zw_push zr_67_19 ?_
      refine zw_41_3 zr_67_21 ?_ ?_
      · intro h11
        refine zw_R zr_67_99 (by decide) zm_67 (v := (9, 0)) rfl ?_
        rw [← hQ]; exact ⟨rfl, hIm7, hFm7, by rw [fm7_62]; exact zFa_end hv1lp17_9 hv0lp17_9 (by omega) (by omega)⟩
      · intro h13
        refine zw_3 zr_67_24 rfl ?_
        refine zw_40_1 zr_67_25 ?_ ?_
        · intro h14
          refine zw_R zr_67_99 (by decide) zm_67 (v := (9, 0)) rfl ?_
          rw [← hQ]; exact ⟨rfl, hIm7, hFm7, by rw [fm7_62]; exact zFa_end hv1lp17_9 hv0lp17_9 (by omega) (by omega)⟩
        · intro h16
          refine zw_3 zr_67_28 rfl ?_
          refine zw_3 zr_67_29 rfl ?_
          refine zw_22p zr_67_30 (by omega) (by omega) ?_
          intro x17 ex17 hx17a hx17b
          refine zw_9 (L' := [(2, 60), (0, a0), (0, x17), (0, i5), (0, i6), (9, 0), (9, 0)]) zr_67_31 (Nat.le_of_ble_eq_true rfl) rfl ?_
          refine zw_push zr_67_32 ?_
          refine zw_10 (L' := [(2, 60), (0, a0), (0, x17), (0, i5), (0, i6), (0, 0), (9, 0)]) zr_67_33 (Nat.le_of_ble_eq_true rfl) rfl ?_
          refine zw_push zr_67_35 ?_
          refine zw_10 (L' := [(2, 60), (0, a0), (0, x17), (0, i5), (0, i6), (0, 0), (0, 0)]) zr_67_36 (Nat.le_of_ble_eq_true rfl) rfl ?_
          have lp38_22 : ∀ (nlp38_22 : Nat) (i18 i19 : Int) (f21 : Nat → Int) (m20 : zM), zInv m20 → zFr W_67 m0 m20 → m20 1 0 = g0 → m20 61 = F61 → m20 62 = f21 → 0 ≤ i18 → i18 ≤ 1023 → 0 ≤ i19 → i19 ≤ 10 → (zS4 F61 i5 i18 i19) → (zS3 (edk F61 g0) a0 i6 g0 f21 i19) → (i19 ≤ g0) → (10 - i19).toNat < nlp38_22 → zW E (d) 67 38 [(2, 60), (0, a0), (0, x17), (0, i5), (0, i6), (0, i18), (0, i19)] [] m20 Q := by
            intro nlp38_22
            induction nlp38_22 with
            | zero =>
              intros
              exact absurd (by assumption : _ < 0) (Nat.not_lt_zero _)
            | succ nlp38_22 ihlp38_22 =>
              intro i18 i19 f21 m20 hIm20 hFm20 km20_1_0 fm20_61 fm20_62 li18 ui18 li19 ui19 hv0lp38_22 hv1lp38_22 hv2lp38_22 hmlp38_22
              refine zw_4 zr_67_38 rfl ?_
              refine zw_7 zr_67_40 rfl ?_
              refine zw_46r (s := 1) zr_67_41 rfl rfl rfl rfl ?_
              refine zw_46i zr_67_44 km20_1_0 rfl rfl rfl ?_
              refine zw_41_3 zr_67_47 ?_ ?_
              · intro h24
                refine zw_4 zr_67_86 rfl ?_
                refine zw_3 zr_67_88 rfl ?_
                refine zw_push zr_67_89 ?_
                refine zw_23c zr_67_90 (by omega) ?_
                refine zw_21n (y := x17) zr_67_91 (by omega) (by omega) ?_
                intro x25 ex25 hx25a hx25b
                refine zw_9 (L' := [(2, 60), (0, a0), (0, x17), (0, x25), (0, i6), (0, i18), (0, i19)]) zr_67_92 (Nat.le_of_ble_eq_true rfl) rfl ?_
                refine zw_15 (c := 1) (L' := [(2, 60), (0, a0), (0, x17), (0, x25), (0, (i6 + 1)), (0, i18), (0, i19)]) zr_67_93 rfl (by decide) (by omega) rfl ?_
                refine zw_42 zr_67_96 ?_
                exact zw_less (L := [(2, 60), (0, a0), (0, x17), (0, x25), (0, (i6 + 1)), (9, 0), (9, 0)]) ⟨Or.inr rfl, Or.inr rfl, Or.inr rfl, Or.inr rfl, Or.inr rfl, Or.inl rfl, Or.inl rfl, trivial⟩ (ihlp17_9 (x17) (x25) ((i6 + 1)) (f21) m20 hIm20 hFm20  km20_1_0 fm20_61 fm20_62 (by omega) (by omega) (by omega) (by omega) (by omega) (by omega) (zS1_next hv0lp17_9 hv0lp38_22 (by omega) (by omega) (by assumption) ex25) (zS2_next hv1lp38_22 (by omega) (by omega)) (by omega))
              · intro h28
                refine zw_3 zr_67_50 rfl ?_
                refine zw_4 zr_67_51 rfl ?_
                refine zw_25p zr_67_53 (by omega) (by omega) ?_
                intro x29 hx29c hx29a hx29b
                refine zw_push zr_67_54 ?_
                refine zw_21o zr_67_55 (by omega) ?_
                refine zw_40_1 zr_67_56 ?_ ?_
                · intro h30
                  refine zw_15 (c := 1) (L' := [(2, 60), (0, a0), (0, x17), (0, i5), (0, i6), (0, i18), (0, (i19 + 1))]) zr_67_80 rfl (by decide) (by omega) rfl ?_
                  refine zw_42 zr_67_83 ?_
                  exact zw_less (L := [(2, 60), (0, a0), (0, x17), (0, i5), (0, i6), (0, i18), (0, (i19 + 1))]) ⟨Or.inr rfl, Or.inr rfl, Or.inr rfl, Or.inr rfl, Or.inr rfl, Or.inr rfl, Or.inr rfl, trivial⟩ (ihlp38_22 (i18) ((i19 + 1)) (f21) m20 hIm20 hFm20  km20_1_0 fm20_61 fm20_62 (by omega) (by omega) (by omega) (by omega) (by first | exact zS4_put hv0lp38_22 (by omega) (by omega) qzz ei18 | exact zS4_skip hv0lp38_22 (by omega) (by omega)) (by first | exact zS3_put hv1lp38_22 hv0lp17_9 (by omega) (by omega) | exact zS3_skip hv1lp38_22 hv0lp17_9 (by omega) (by omega)) (by omega) (by omega))
                · intro h33
                  refine zw_7 zr_67_59 rfl ?_
                  refine zw_46r (s := 62) zr_67_60 rfl rfl rfl rfl ?_
                  refine zw_4 zr_67_63 rfl ?_
                  refine zw_4 zr_67_65 rfl ?_
                  refine zw_49 (c := 62) (len := 10) zr_67_67 rfl rfl (by omega) (by omega) ?_
                  intro m34 em34
                  have hIm34 : zInv m34 := by rw [em34]; exact iu_62 hIm20 (by omega)
                  have hFm34 : zFr W_67 m0 m34 := by rw [em34]; exact hFm20.any rfl
                  have km34_1_0 : m34 1 0 = g0 := by rw [em34, zUp_ne (by omega)]; exact km20_1_0
                  have fm34_61 : m34 61 = F61 := by rw [em34, zUp_fn (by decide)]; exact fm20_61
                  have fm34_62 : m34 62 = zPt f21 ((i19).toNat) i6 := by rw [em34]; exact (zUp_ff (m := m20)).trans (congrArg (fun q => zPt q ((i19).toNat) i6) fm20_62)
                  clear em34
                  refine zw_4 zr_67_68 rfl ?_
                  refine zw_7 zr_67_70 rfl ?_
                  refine zw_46r (s := 61) zr_67_71 rfl rfl rfl rfl ?_
                  refine zw_4 zr_67_74 rfl ?_
                  refine zw_48 (c := 61) (len := 10) zr_67_76 rfl rfl (by omega) (by omega) ?_
                  intro x35 ex35
                  have bx35 := ib_61 hIm34 (k := (i19).toNat) (by omega)
                  rw [← ex35] at bx35
                  have qx35 : x35 = F61 (i19).toNat := by rw [← fm34_61]; exact ex35
                  clear ex35
                  refine zw_22p zr_67_77 (by omega) (by omega) ?_
                  intro x36 ex36 hx36a hx36b
                  refine zw_10 (L' := [(2, 60), (0, a0), (0, x17), (0, i5), (0, i6), (0, x36), (0, i19)]) zr_67_78 (Nat.le_of_ble_eq_true rfl) rfl ?_
                  refine zw_15 (c := 1) (L' := [(2, 60), (0, a0), (0, x17), (0, i5), (0, i6), (0, x36), (0, (i19 + 1))]) zr_67_80 rfl (by decide) (by omega) rfl ?_
                  refine zw_42 zr_67_83 ?_
                  exact zw_less (L := [(2, 60), (0, a0), (0, x17), (0, i5), (0, i6), (0, x36), (0, (i19 + 1))]) ⟨Or.inr rfl, Or.inr rfl, Or.inr rfl, Or.inr rfl, Or.inr rfl, Or.inr rfl, Or.inr rfl, trivial⟩ (ihlp38_22 (x36) ((i19 + 1)) (zPt f21 ((i19).toNat) i6) m34 hIm34 hFm34  km34_1_0 fm34_61 fm34_62 (by omega) (by omega) (by omega) (by omega) (by first | exact zS4_put hv0lp38_22 (by omega) (by omega) qx35 ex36 | exact zS4_skip hv0lp38_22 (by omega) (by omega)) (by first | exact zS3_put hv1lp38_22 hv0lp17_9 (by omega) (by omega) | exact zS3_skip hv1lp38_22 hv0lp17_9 (by omega) (by omega)) (by omega) (by omega))
          exact lp38_22 _ (0) (0) (f8) m7 hIm7 hFm7  km7_1_0 fm7_61 fm7_62 (by omega) (by omega) (by omega) (by omega) (zS4_0) (zS3_0 hv1lp17_9) (by omega) (Nat.lt_succ_self _)
  exact lp17_9 _ (0) (x3) (0) (f2) m1 hIm1 hFm1  km1_1_0 fm1_61 fm1_62 (by omega) (by omega) (by omega) (by omega) (by omega) (by omega) (zS1_0 (by omega) ex3) (zS2_0 (by assumption) (by omega)) (Nat.lt_succ_self _)

abbrev W_68 : List (Nat × Nat) := [(61, 1000), (62, 1000)]
set_option maxHeartbeats 8000000 in
theorem th_68 {E : zE} {d : Nat} {m0 : zM} {a0 : Int} {a1 : Int} {g0 : Int} {g1 : Int} {g2 : Int} {g3 : Int} {F6 : Nat → Int} {F7 : Nat → Int} {F61 : Nat → Int} {F62 : Nat → Int} (hd : 3 ≤ d) (hI0 : zInv m0) (hg0 : m0 1 0 = g0) (hg1 : m0 1 1 = g1) (hg2 : m0 1 2 = g2) (hg3 : m0 1 3 = g3) (hG6 : m0 6 = F6) (hG7 : m0 7 = F7) (hG61 : m0 61 = F61) (hG62 : m0 62 = F62) (ha0 : 0 ≤ a0 ∧ a0 ≤ 9) (ha1 : 0 ≤ a1 ∧ a1 ≤ 9) : zC E d 68 [(2, 60), (0, a0), (0, a1)] m0 (fun v m' => ∃ r : Int, v = (0, r) ∧ 0 ≤ r ∧ r ≤ 1 ∧ zInv m' ∧ zFr W_68 m0 m' ∧ (zRd (m' 61) F6 F7 g2 g3 g1 g0 a1 (m' 62)) ∧ ((r = 0 ∧ m' 62 a0.toNat = -1) ∨ (r = 1 ∧ m' 62 a0.toNat ≠ -1))) := by
  have hF0 : zFr W_68 m0 m0 := zFr.rfl
  have bg0 := ib_1_0 hI0
  rw [hg0] at bg0
  have bg1 := ib_1_1 hI0
  rw [hg1] at bg1
  have bg2 := ib_1_2 hI0
  rw [hg2] at bg2
  have bg3 := ib_1_3 hI0
  rw [hg3] at bg3
  generalize hQ : (fun (v : zV) (m' : zM) => ∃ r : Int, v = (0, r) ∧ 0 ≤ r ∧ r ≤ 1 ∧ zInv m' ∧ zFr W_68 m0 m' ∧ (zRd (m' 61) F6 F7 g2 g3 g1 g0 a1 (m' 62)) ∧ ((r = 0 ∧ m' 62 a0.toNat = -1) ∨ (r = 1 ∧ m' 62 a0.toNat ≠ -1))) = Q
  show zW E d 68 0 [(2, 60), (0, a0), (0, a1)] [] m0 Q
  refine zw_7 zr_68_0 rfl ?_
  refine zw_7 zr_68_1 rfl ?_
  refine zw_46r (s := 1) zr_68_2 rfl rfl rfl rfl ?_
  refine zw_C zr_68_5 (Or.inl rfl) zm_53 rfl rfl ⟨Nat.le_of_ble_eq_true rfl, Nat.le_of_ble_eq_true rfl, Nat.le_of_ble_eq_true rfl, rfl, by decide⟩ (by omega) (th_53 (d := d - 1) (by omega) hI0  (g0 := g1) (g1 := g2) (g2 := g3)   hg1 hg2 hg3   ) ?_
  rintro _ _ ⟨r1, rfl, hr1a, hr1b, rfl, po0_r1⟩
  show zW E (d) 68 8 [(2, 60), (0, a0), (0, a1)] [(1, r1), (2, 60)] m0 Q
  refine zw_C zr_68_8 (Or.inl rfl) zm_66 rfl rfl ⟨Nat.le_of_ble_eq_true rfl, Nat.le_of_ble_eq_true rfl, Nat.le_of_ble_eq_true rfl, rfl, by decide⟩ (by omega) (th_66 (d := d - 1) (by omega) hI0 (a0 := r1) (g0 := g1)  (F61 := F61) (F6 := F6) (F7 := F7) hg1 hG61 hG6 hG7 (by omega) ) ?_
  rintro _ m2 ⟨rfl, hIm2, gm2, po0_m2⟩
  have hFm2 : zFr W_68 m0 m2 := hF0.trans gm2 rfl
  have km2_1_0 : m2 1 0 = g0 := (gm2 1 0 rfl).trans hg0
  have km2_1_1 : m2 1 1 = g1 := (gm2 1 1 rfl).trans hg1
  have km2_1_2 : m2 1 2 = g2 := (gm2 1 2 rfl).trans hg2
  have km2_1_3 : m2 1 3 = g3 := (gm2 1 3 rfl).trans hg3
  have fm2_6 : m2 6 = F6 := (funext fun k => gm2 6 k rfl).trans hG6
  have fm2_7 : m2 7 = F7 := (funext fun k => gm2 7 k rfl).trans hG7
  obtain ⟨f3, fm2_61⟩ : ∃ f, m2 61 = f := ⟨_, rfl⟩
  try rw [fm2_61] at po0_m2
  have fm2_62 : m2 62 = F62 := (funext fun k => gm2 62 k rfl).trans hG62
  show zW E (d) 68 11 [(2, 60), (0, a0), (0, a1)] [] m2 Q
  refine zw_7 zr_68_11 rfl ?_
  refine zw_3 zr_68_12 rfl ?_
  refine zw_C zr_68_13 (Or.inl rfl) zm_67 rfl rfl ⟨Nat.le_of_ble_eq_true rfl, Nat.le_of_ble_eq_true rfl, Nat.le_of_ble_eq_true rfl, rfl, by decide⟩ (by omega) (th_67 (d := d - 1) (by omega) hIm2 (a0 := a1) (g0 := g0)  (F61 := f3) (F62 := F62) km2_1_0 fm2_61 fm2_62 (by omega) ) ?_
  rintro _ m4 ⟨rfl, hIm4, gm4, po0_m4⟩
  have hFm4 : zFr W_68 m0 m4 := hFm2.trans gm4 rfl
  have km4_1_0 : m4 1 0 = g0 := (gm4 1 0 rfl).trans km2_1_0
  have km4_1_1 : m4 1 1 = g1 := (gm4 1 1 rfl).trans km2_1_1
  have km4_1_2 : m4 1 2 = g2 := (gm4 1 2 rfl).trans km2_1_2
  have km4_1_3 : m4 1 3 = g3 := (gm4 1 3 rfl).trans km2_1_3
  have fm4_6 : m4 6 = F6 := (funext fun k => gm4 6 k rfl).trans fm2_6
  have fm4_7 : m4 7 = F7 := (funext fun k => gm4 7 k rfl).trans fm2_7
  have fm4_61 : m4 61 = f3 := (funext fun k => gm4 61 k rfl).trans fm2_61
  obtain ⟨f5, fm4_62⟩ : ∃ f, m4 62 = f := ⟨_, rfl⟩
  try rw [fm4_62] at po0_m4
  show zW E (d) 68 16 [(2, 60), (0, a0), (0, a1)] [] m4 Q
  refine zw_7 zr_68_16 rfl ?_
  refine zw_46r (s := 62) zr_68_17 rfl rfl rfl rfl ?_
  refine zw_3 zr_68_20 rfl ?_
  refine zw_48 (c := 62) (len := 10) zr_68_21 rfl rfl (by omega) (by omega) ?_
  intro x6 ex6
  have bx6 := ib_62 hIm4 (k := (a0).toNat) (by omega)
  rw [← ex6] at bx6
  have qx6 : x6 = f5 (a0).toNat := by rw [← fm4_62]; exact ex6
  clear ex6
  refine zw_push zr_68_22 ?_
  refine zw_41_1 zr_68_23 ?_ ?_
  · intro h7
    refine zw_push zr_68_30 ?_
    refine zw_R zr_68_31 (by decide) zm_68 (v := (0, 0)) (zRetB (by omega)) ?_
    rw [← hQ]; exact ⟨_, rfl, by omega, by omega, hIm4, hFm4, by rw [fm4_61, fm4_62]; exact zRd_mk po0_r1 po0_m2 po0_m4 (by omega) (by omega), by rw [fm4_62, ← qx6]; omega⟩
  · intro h10
    refine zw_push zr_68_26 ?_
    refine zw_42 zr_68_27 ?_
    refine zw_R zr_68_31 (by decide) zm_68 (v := (0, 1)) (zRetB (by omega)) ?_
    rw [← hQ]; exact ⟨_, rfl, by omega, by omega, hIm4, hFm4, by rw [fm4_61, fm4_62]; exact zRd_mk po0_r1 po0_m2 po0_m4 (by omega) (by omega), by rw [fm4_62, ← qx6]; omega⟩

abbrev W_85 : List (Nat × Nat) := [(56, 1000), (57, 1000), (58, 1000), (59, 1000)]
set_option maxHeartbeats 8000000 in
theorem th_85 {E : zE} {d : Nat} {m0 : zM} {a0 : Int} {a1 : Int} {g0 : Int} {g1 : Int} {g2 : Int} {g3 : Int} {g4 : Int} {g5 : Int} {F2 : Nat → Int} {F5 : Nat → Int} {F6 : Nat → Int} {F7 : Nat → Int} {F8 : Nat → Int} {F12 : Nat → Int} {F56 : Nat → Int} {F57 : Nat → Int} {F58 : Nat → Int} {F59 : Nat → Int} (hd : 3 ≤ d) (hI0 : zInv m0) (hg0 : m0 1 0 = g0) (hg1 : m0 1 1 = g1) (hg2 : m0 1 2 = g2) (hg3 : m0 1 3 = g3) (hg4 : m0 1 4 = g4) (hg5 : m0 1 5 = g5) (hG2 : m0 2 = F2) (hG5 : m0 5 = F5) (hG6 : m0 6 = F6) (hG7 : m0 7 = F7) (hG8 : m0 8 = F8) (hG12 : m0 12 = F12) (hG56 : m0 56 = F56) (hG57 : m0 57 = F57) (hG58 : m0 58 = F58) (hG59 : m0 59 = F59) (ha0 : 0 ≤ a0 ∧ a0 ≤ 9) (ha1 : 0 ≤ a1 ∧ a1 ≤ 9) (hp0 : ∃ X, fea (zEk F5 F6 F7 F8 F2 F12 g4 g5 (zSa g2 g3 g1)) X) (hp1 : rcl (zEk F5 F6 F7 F8 F2 F12 g4 g5 (zSa g2 g3 g1)) a1.toNat a0.toNat) : zC E d 85 [(2, 55), (0, a0), (0, a1)] m0 (fun v m' => ∃ r : Int, v = (0, r) ∧ (-3000000) ≤ r ∧ r ≤ 1000000 ∧ zInv m' ∧ zFr W_85 m0 m' ∧ (zGd2 (zEk F5 F6 F7 F8 F2 F12 g4 g5 (zSa g2 g3 g1)) a1.toNat a0.toNat r)) := by
  have hF0 : zFr W_85 m0 m0 := zFr.rfl
  have bg0 := ib_1_0 hI0
  rw [hg0] at bg0
  have bg1 := ib_1_1 hI0
  rw [hg1] at bg1
  have bg2 := ib_1_2 hI0
  rw [hg2] at bg2
  have bg3 := ib_1_3 hI0
  rw [hg3] at bg3
  have bg4 := ib_1_4 hI0
  rw [hg4] at bg4
  have bg5 := ib_1_5 hI0
  rw [hg5] at bg5
  generalize hQ : (fun (v : zV) (m' : zM) => ∃ r : Int, v = (0, r) ∧ (-3000000) ≤ r ∧ r ≤ 1000000 ∧ zInv m' ∧ zFr W_85 m0 m' ∧ (zGd2 (zEk F5 F6 F7 F8 F2 F12 g4 g5 (zSa g2 g3 g1)) a1.toNat a0.toNat r)) = Q
  show zW E d 85 0 [(2, 55), (0, a0), (0, a1), (9, 0), (9, 0), (9, 0), (9, 0)] [] m0 Q
  refine zw_7 zr_85_0 rfl ?_
  refine zw_C zr_85_1 (Or.inl rfl) zm_78 rfl rfl ⟨Nat.le_of_ble_eq_true rfl, Nat.le_of_ble_eq_true rfl, Nat.le_of_ble_eq_true rfl, rfl, by decide⟩ (by omega) (th_78 (d := d - 1) (by omega) hI0  (g0 := g1) (g1 := g4) (g2 := g5)  (F2 := F2) (F5 := F5) (F6 := F6) (F7 := F7) (F8 := F8) (F12 := F12) (F56 := F56) (F57 := F57) hg1 hg4 hg5 hG2 hG5 hG6 hG7 hG8 hG12 hG56 hG57  ) ?_
  rintro _ m1 ⟨rfl, hIm1, gm1, po0_m1⟩
  have hFm1 : zFr W_85 m0 m1 := hF0.trans gm1 rfl
  have km1_1_0 : m1 1 0 = g0 := (gm1 1 0 rfl).trans hg0
  have km1_1_1 : m1 1 1 = g1 := (gm1 1 1 rfl).trans hg1
  have km1_1_2 : m1 1 2 = g2 := (gm1 1 2 rfl).trans hg2
  have km1_1_3 : m1 1 3 = g3 := (gm1 1 3 rfl).trans hg3
  have km1_1_4 : m1 1 4 = g4 := (gm1 1 4 rfl).trans hg4
  have km1_1_5 : m1 1 5 = g5 := (gm1 1 5 rfl).trans hg5
  have fm1_2 : m1 2 = F2 := (funext fun k => gm1 2 k rfl).trans hG2
  have fm1_5 : m1 5 = F5 := (funext fun k => gm1 5 k rfl).trans hG5
  have fm1_6 : m1 6 = F6 := (funext fun k => gm1 6 k rfl).trans hG6
  have fm1_7 : m1 7 = F7 := (funext fun k => gm1 7 k rfl).trans hG7
  have fm1_8 : m1 8 = F8 := (funext fun k => gm1 8 k rfl).trans hG8
  have fm1_12 : m1 12 = F12 := (funext fun k => gm1 12 k rfl).trans hG12
  obtain ⟨f2, fm1_56⟩ : ∃ f, m1 56 = f := ⟨_, rfl⟩
  try rw [fm1_56] at po0_m1
  obtain ⟨f3, fm1_57⟩ : ∃ f, m1 57 = f := ⟨_, rfl⟩
  try rw [fm1_57] at po0_m1
  have fm1_58 : m1 58 = F58 := (funext fun k => gm1 58 k rfl).trans hG58
  have fm1_59 : m1 59 = F59 := (funext fun k => gm1 59 k rfl).trans hG59
  show zW E (d) 85 4 [(2, 55), (0, a0), (0, a1), (9, 0), (9, 0), (9, 0), (9, 0)] [] m1 Q
  refine zw_7 zr_85_4 rfl ?_
  refine zw_46r (s := 58) zr_85_5 rfl rfl rfl rfl ?_
  refine zw_push zr_85_8 ?_
  refine zw_C zr_85_10 (Or.inr rfl) zm_4 rfl rfl ⟨Nat.le_of_ble_eq_true rfl, Nat.le_of_ble_eq_true rfl, Nat.le_of_ble_eq_true rfl, rfl, by decide⟩ (by omega) (th_4_58 (d := d - 1) (by omega) hIm1 (a0 := 1000000)   (F58 := F58)  fm1_58 (by omega) ) ?_
  rintro _ m4 ⟨rfl, hIm4, gm4, po0_m4⟩
  have hFm4 : zFr W_85 m0 m4 := hFm1.trans gm4 rfl
  have km4_1_0 : m4 1 0 = g0 := (gm4 1 0 rfl).trans km1_1_0
  have km4_1_1 : m4 1 1 = g1 := (gm4 1 1 rfl).trans km1_1_1
  have km4_1_2 : m4 1 2 = g2 := (gm4 1 2 rfl).trans km1_1_2
  have km4_1_3 : m4 1 3 = g3 := (gm4 1 3 rfl).trans km1_1_3
  have km4_1_4 : m4 1 4 = g4 := (gm4 1 4 rfl).trans km1_1_4
  have km4_1_5 : m4 1 5 = g5 := (gm4 1 5 rfl).trans km1_1_5
  have fm4_2 : m4 2 = F2 := (funext fun k => gm4 2 k rfl).trans fm1_2
  have fm4_5 : m4 5 = F5 := (funext fun k => gm4 5 k rfl).trans fm1_5
  have fm4_6 : m4 6 = F6 := (funext fun k => gm4 6 k rfl).trans fm1_6
  have fm4_7 : m4 7 = F7 := (funext fun k => gm4 7 k rfl).trans fm1_7
  have fm4_8 : m4 8 = F8 := (funext fun k => gm4 8 k rfl).trans fm1_8
  have fm4_12 : m4 12 = F12 := (funext fun k => gm4 12 k rfl).trans fm1_12
  have fm4_56 : m4 56 = f2 := (funext fun k => gm4 56 k rfl).trans fm1_56
  have fm4_57 : m4 57 = f3 := (funext fun k => gm4 57 k rfl).trans fm1_57
  obtain ⟨f5, fm4_58⟩ : ∃ f, m4 58 = f := ⟨_, rfl⟩
  try rw [fm4_58] at po0_m4
  have fm4_59 : m4 59 = F59 := (funext fun k => gm4 59 k rfl).trans fm1_59
  show zW E (d) 85 13 [(2, 55), (0, a0), (0, a1), (9, 0), (9, 0), (9, 0), (9, 0)] [] m4 Q
  refine zw_7 zr_85_13 rfl ?_
  refine zw_46r (s := 58) zr_85_14 rfl rfl rfl rfl ?_
  refine zw_3 zr_85_17 rfl ?_
  refine zw_push zr_85_18 ?_
  refine zw_49 (c := 58) (len := 10) zr_85_19 rfl rfl (by omega) (by omega) ?_
  intro m6 em6
  have hIm6 : zInv m6 := by rw [em6]; exact iu_58 hIm4 (by omega)
  have hFm6 : zFr W_85 m0 m6 := by rw [em6]; exact hFm4.any rfl
  have km6_1_0 : m6 1 0 = g0 := by rw [em6, zUp_ne (by omega)]; exact km4_1_0
  have km6_1_1 : m6 1 1 = g1 := by rw [em6, zUp_ne (by omega)]; exact km4_1_1
  have km6_1_2 : m6 1 2 = g2 := by rw [em6, zUp_ne (by omega)]; exact km4_1_2
  have km6_1_3 : m6 1 3 = g3 := by rw [em6, zUp_ne (by omega)]; exact km4_1_3
  have km6_1_4 : m6 1 4 = g4 := by rw [em6, zUp_ne (by omega)]; exact km4_1_4
  have km6_1_5 : m6 1 5 = g5 := by rw [em6, zUp_ne (by omega)]; exact km4_1_5
  have fm6_2 : m6 2 = F2 := by rw [em6, zUp_fn (by decide)]; exact fm4_2
  have fm6_5 : m6 5 = F5 := by rw [em6, zUp_fn (by decide)]; exact fm4_5
  have fm6_6 : m6 6 = F6 := by rw [em6, zUp_fn (by decide)]; exact fm4_6
  have fm6_7 : m6 7 = F7 := by rw [em6, zUp_fn (by decide)]; exact fm4_7
  have fm6_8 : m6 8 = F8 := by rw [em6, zUp_fn (by decide)]; exact fm4_8
  have fm6_12 : m6 12 = F12 := by rw [em6, zUp_fn (by decide)]; exact fm4_12
  have fm6_56 : m6 56 = f2 := by rw [em6, zUp_fn (by decide)]; exact fm4_56
  have fm6_57 : m6 57 = f3 := by rw [em6, zUp_fn (by decide)]; exact fm4_57
  have fm6_58 : m6 58 = zPt f5 ((a1).toNat) 0 := by rw [em6]; exact (zUp_ff (m := m4)).trans (congrArg (fun q => zPt q ((a1).toNat) 0) fm4_58)
  have fm6_59 : m6 59 = F59 := by rw [em6, zUp_fn (by decide)]; exact fm4_59
  clear em6
  refine zw_7 zr_85_20 rfl ?_
  refine zw_46r (s := 1) zr_85_21 rfl rfl rfl rfl ?_
  refine zw_C zr_85_24 (Or.inl rfl) zm_53 rfl rfl ⟨Nat.le_of_ble_eq_true rfl, Nat.le_of_ble_eq_true rfl, Nat.le_of_ble_eq_true rfl, rfl, by decide⟩ (by omega) (th_53 (d := d - 1) (by omega) hIm6  (g0 := g1) (g1 := g2) (g2 := g3)   km6_1_1 km6_1_2 km6_1_3   ) ?_
  rintro _ _ ⟨r7, rfl, hr7a, hr7b, rfl, po0_r7⟩
  show zW E (d) 85 27 [(2, 55), (0, a0), (0, a1), (9, 0), (9, 0), (9, 0), (9, 0)] [(1, r7)] m6 Q
  refine zw_13 (L' := [(2, 55), (0, a0), (0, a1), (1, r7), (9, 0), (9, 0), (9, 0)]) zr_85_27 (Nat.le_of_ble_eq_true rfl) rfl ?_
  refine zw_push zr_85_28 ?_
  refine zw_10 (L' := [(2, 55), (0, a0), (0, a1), (1, r7), (9, 0), (0, 1), (9, 0)]) zr_85_29 (Nat.le_of_ble_eq_true rfl) rfl ?_
  refine zw_push zr_85_31 ?_
  refine zw_10 (L' := [(2, 55), (0, a0), (0, a1), (1, r7), (9, 0), (0, 1), (0, 0)]) zr_85_32 (Nat.le_of_ble_eq_true rfl) rfl ?_
  have lp34_13 : ∀ (nlp34_13 : Nat) (i8 i9 : Int) (f11 : Nat → Int) (f12 : Nat → Int) (m10 : zM), zInv m10 → zFr W_85 m0 m10 → m10 1 0 = g0 → m10 1 1 = g1 → m10 1 2 = g2 → m10 1 3 = g3 → m10 1 4 = g4 → m10 1 5 = g5 → m10 2 = F2 → m10 5 = F5 → m10 6 = F6 → m10 7 = F7 → m10 8 = F8 → m10 12 = F12 → m10 56 = f2 → m10 57 = f3 → m10 58 = f11 → m10 59 = f12 → 0 ≤ i8 → i8 ≤ 1 → 0 ≤ i9 → i9 ≤ 10 → (zGr (zc6 F6) (zc6 F7) f2 f3 g1 r7 a1.toNat i9 i8 f11) → (zLo f11 (240000 * i9)) → (10 - i9).toNat < nlp34_13 → zW E (d) 85 34 [(2, 55), (0, a0), (0, a1), (1, r7), (9, 0), (0, i8), (0, i9)] [] m10 Q := by
    intro nlp34_13
    induction nlp34_13 with
    | zero =>
      intros
      exact absurd (by assumption : _ < 0) (Nat.not_lt_zero _)
    | succ nlp34_13 ihlp34_13 =>
      intro i8 i9 f11 f12 m10 hIm10 hFm10 km10_1_0 km10_1_1 km10_1_2 km10_1_3 km10_1_4 km10_1_5 fm10_2 fm10_5 fm10_6 fm10_7 fm10_8 fm10_12 fm10_56 fm10_57 fm10_58 fm10_59 li8 ui8 li9 ui9 hv0lp34_13 hv1lp34_13 hmlp34_13
      refine zw_4 zr_85_34 rfl ?_
      refine zw_push zr_85_36 ?_
      refine zw_41_3 zr_85_38 ?_ ?_
      · intro h15
        refine zw_7 zr_85_59 rfl ?_
        refine zw_46r (s := 58) zr_85_60 rfl rfl rfl rfl ?_
        refine zw_3 zr_85_63 rfl ?_
        refine zw_48 (c := 58) (len := 10) zr_85_64 rfl rfl (by omega) (by omega) ?_
        intro x16 ex16
        have bx16 := ib_58 hIm10 (k := (a0).toNat) (by omega)
        rw [← ex16] at bx16
        have qx16 : x16 = f11 (a0).toNat := by rw [← fm10_58]; exact ex16
        clear ex16
        refine zw_R zr_85_65 (by decide) zm_85 (v := (0, x16)) rfl ?_
        rw [← hQ]; exact ⟨_, rfl, by omega, by omega, hIm10, hFm10, by have e := edg_k (by assumption : zBn f2 f3 F5 F6 F7 F8 F2 F12 g4 g5 g1) (zSy_a (by assumption : zSy r7 g2 g3 g1) (by omega)); obtain ⟨X, hX⟩ := hp0; have z := zGr_e (j := a0.toNat) (zAB_c (fun i hi => by rw [← hG6]; exact ib_6 hI0 hi) (fun i hi => by rw [← hG7]; exact ib_7 hI0 hi)) (fun i hi => ⟨by rw [← fm10_57]; exact (ib_57 hIm10 (by omega)).2, by rw [← fm10_56]; have z := ib_56 hIm10 (k := i) (by omega); omega⟩) hv0lp34_13 (by omega) (by rw [e]; exact hX) (by omega) (by omega) (by rw [e]; exact rcl_R hp1); rw [e, ← qx16] at z; exact z⟩
      · intro h18
        refine zw_4 zr_85_41 rfl ?_
        refine zw_40_1 zr_85_43 ?_ ?_
        · intro h19
          refine zw_7 zr_85_59 rfl ?_
          refine zw_46r (s := 58) zr_85_60 rfl rfl rfl rfl ?_
          refine zw_3 zr_85_63 rfl ?_
          refine zw_48 (c := 58) (len := 10) zr_85_64 rfl rfl (by omega) (by omega) ?_
          intro x20 ex20
          have bx20 := ib_58 hIm10 (k := (a0).toNat) (by omega)
          rw [← ex20] at bx20
          have qx20 : x20 = f11 (a0).toNat := by rw [← fm10_58]; exact ex20
          clear ex20
          refine zw_R zr_85_65 (by decide) zm_85 (v := (0, x20)) rfl ?_
          rw [← hQ]; exact ⟨_, rfl, by omega, by omega, hIm10, hFm10, by have e := edg_k (by assumption : zBn f2 f3 F5 F6 F7 F8 F2 F12 g4 g5 g1) (zSy_a (by assumption : zSy r7 g2 g3 g1) (by omega)); obtain ⟨X, hX⟩ := hp0; have z := zGr_e (j := a0.toNat) (zAB_c (fun i hi => by rw [← hG6]; exact ib_6 hI0 hi) (fun i hi => by rw [← hG7]; exact ib_7 hI0 hi)) (fun i hi => ⟨by rw [← fm10_57]; exact (ib_57 hIm10 (by omega)).2, by rw [← fm10_56]; have z := ib_56 hIm10 (k := i) (by omega); omega⟩) hv0lp34_13 (by omega) (by rw [e]; exact hX) (by omega) (by omega) (by rw [e]; exact rcl_R hp1); rw [e, ← qx20] at z; exact z⟩
        · intro h22
          have hf : zGr (zc6 F6) (zc6 F7) f2 f3 g1 r7 a1.toNat i9 1 f11 := by have z := hv0lp34_13; rw [show i8 = 1 by omega] at z; exact z
          refine zw_7 zr_85_46 rfl ?_
          refine zw_5 zr_85_47 rfl ?_
          refine zw_C zr_85_48 (Or.inl rfl) zm_80 rfl rfl ⟨Nat.le_of_ble_eq_true rfl, Nat.le_of_ble_eq_true rfl, Nat.le_of_ble_eq_true rfl, rfl, by decide⟩ (by omega) (th_80 (d := d - 1) (by omega) hIm10 (a0 := r7) (g0 := g1) (gC := 240000 * i9) (F6 := F6) (F7 := F7) (F56 := f2) (F57 := f3) (F58 := f11) (F59 := f12) km10_1_1 fm10_6 fm10_7 fm10_56 fm10_57 fm10_58 fm10_59 (by omega) (hv1lp34_13) (by omega)) ?_
          rintro _ m26 ⟨r27, rfl, hr27a, hr27b, hIm26, gm26, po0_r27, po1_r27, po2_r27, po3_r27⟩
          have hFm26 : zFr W_85 m0 m26 := hFm10.trans gm26 rfl
          have km26_1_0 : m26 1 0 = g0 := (gm26 1 0 rfl).trans km10_1_0
          have km26_1_1 : m26 1 1 = g1 := (gm26 1 1 rfl).trans km10_1_1
          have km26_1_2 : m26 1 2 = g2 := (gm26 1 2 rfl).trans km10_1_2
          have km26_1_3 : m26 1 3 = g3 := (gm26 1 3 rfl).trans km10_1_3
          have km26_1_4 : m26 1 4 = g4 := (gm26 1 4 rfl).trans km10_1_4
          have km26_1_5 : m26 1 5 = g5 := (gm26 1 5 rfl).trans km10_1_5
          have fm26_2 : m26 2 = F2 := (funext fun k => gm26 2 k rfl).trans fm10_2
          have fm26_5 : m26 5 = F5 := (funext fun k => gm26 5 k rfl).trans fm10_5
          have fm26_6 : m26 6 = F6 := (funext fun k => gm26 6 k rfl).trans fm10_6
          have fm26_7 : m26 7 = F7 := (funext fun k => gm26 7 k rfl).trans fm10_7
          have fm26_8 : m26 8 = F8 := (funext fun k => gm26 8 k rfl).trans fm10_8
          have fm26_12 : m26 12 = F12 := (funext fun k => gm26 12 k rfl).trans fm10_12
          have fm26_56 : m26 56 = f2 := (funext fun k => gm26 56 k rfl).trans fm10_56
          have fm26_57 : m26 57 = f3 := (funext fun k => gm26 57 k rfl).trans fm10_57
          obtain ⟨f28, fm26_58⟩ : ∃ f, m26 58 = f := ⟨_, rfl⟩
          try rw [fm26_58] at po0_r27
          try rw [fm26_58] at po3_r27
          obtain ⟨f29, fm26_59⟩ : ∃ f, m26 59 = f := ⟨_, rfl⟩
          try rw [fm26_59] at po1_r27
          show zW E (d) 85 51 [(2, 55), (0, a0), (0, a1), (1, r7), (9, 0), (0, i8), (0, i9)] [(0, r27)] m26 Q
          refine zw_10 (L' := [(2, 55), (0, a0), (0, a1), (1, r7), (9, 0), (0, r27), (0, i9)]) zr_85_51 (Nat.le_of_ble_eq_true rfl) rfl ?_
          refine zw_15 (c := 1) (L' := [(2, 55), (0, a0), (0, a1), (1, r7), (9, 0), (0, r27), (0, (i9 + 1))]) zr_85_53 rfl (by decide) (by omega) rfl ?_
          refine zw_42 zr_85_56 ?_
          exact zw_less (L := [(2, 55), (0, a0), (0, a1), (1, r7), (9, 0), (0, r27), (0, (i9 + 1))]) ⟨Or.inr rfl, Or.inr rfl, Or.inr rfl, Or.inr rfl, Or.inl rfl, Or.inr rfl, Or.inr rfl, trivial⟩ (ihlp34_13 (r27) ((i9 + 1)) (f28) (f29) m26 hIm26 hFm26  km26_1_0 km26_1_1 km26_1_2 km26_1_3 km26_1_4 km26_1_5 fm26_2 fm26_5 fm26_6 fm26_7 fm26_8 fm26_12 fm26_56 fm26_57 fm26_58 fm26_59 (by omega) (by omega) (by omega) (by omega) (zGr_s (zAB_c (fun i hi => by rw [← hG6]; exact ib_6 hI0 hi) (fun i hi => by rw [← hG7]; exact ib_7 hI0 hi)) (fun i hi => ⟨by rw [← fm26_57]; exact (ib_57 hIm26 (by omega)).2, by rw [← fm26_56]; have z := ib_56 hIm26 (k := i) (by omega); omega⟩) hf (by omega) po0_r27 po2_r27 (by omega)) (zLo_m po3_r27 (by omega)) (by omega))
  exact lp34_13 _ (1) (0) (zPt f5 ((a1).toNat) 0) (F59) m6 hIm6 hFm6  km6_1_0 km6_1_1 km6_1_2 km6_1_3 km6_1_4 km6_1_5 fm6_2 fm6_5 fm6_6 fm6_7 fm6_8 fm6_12 fm6_56 fm6_57 fm6_58 fm6_59 (by omega) (by omega) (by omega) (by omega) (zGr_0 po0_m4 (by omega)) (zLo_m (zLo_z po0_m4) (by omega)) (Nat.lt_succ_self _)

abbrev W_118 : List (Nat × Nat) := [(56, 1000), (57, 1000), (58, 1000), (59, 1000), (61, 1000), (62, 1000)]
set_option maxHeartbeats 8000000 in
theorem th_118 {E : zE} {d : Nat} {m0 : zM} {a0 : Int} {a1 : Int} {a2 : Int} {g0 : Int} {g1 : Int} {g2 : Int} {g3 : Int} {g4 : Int} {g5 : Int} {F2 : Nat → Int} {F5 : Nat → Int} {F6 : Nat → Int} {F7 : Nat → Int} {F8 : Nat → Int} {F12 : Nat → Int} (hd : 6 ≤ d) (hI0 : zInv m0) (hg0 : m0 1 0 = g0) (hg1 : m0 1 1 = g1) (hg2 : m0 1 2 = g2) (hg3 : m0 1 3 = g3) (hg4 : m0 1 4 = g4) (hg5 : m0 1 5 = g5) (hG2 : m0 2 = F2) (hG5 : m0 5 = F5) (hG6 : m0 6 = F6) (hG7 : m0 7 = F7) (hG8 : m0 8 = F8) (hG12 : m0 12 = F12) (ha0 : (-2147483648) ≤ a0 ∧ a0 ≤ 2147483647) (ha1 : (-2147483648) ≤ a1 ∧ a1 ≤ 2147483647) (ha2 : (-2147483648) ≤ a2 ∧ a2 ≤ 2147483647) (hp0 : zPl F6 F7 g1 g0) : zC E d 118 [(2, 0), (0, a0), (0, a1), (0, a2)] m0 (fun v m' => ∃ r : Int, v = (0, r) ∧ (-3000000) ≤ r ∧ r ≤ 3000000 ∧ zInv m' ∧ zFr W_118 m0 m' ∧ (spn (zEk F5 F6 F7 F8 F2 F12 g4 g5 (zSa g2 g3 g1)) g0 a0 a1 a2 r)) := by
  have hF0 : zFr W_118 m0 m0 := zFr.rfl
  have bg0 := ib_1_0 hI0
  rw [hg0] at bg0
  have bg1 := ib_1_1 hI0
  rw [hg1] at bg1
  have bg2 := ib_1_2 hI0
  rw [hg2] at bg2
  have bg3 := ib_1_3 hI0
  rw [hg3] at bg3
  have bg4 := ib_1_4 hI0
  rw [hg4] at bg4
  have bg5 := ib_1_5 hI0
  rw [hg5] at bg5
  generalize hQ : (fun (v : zV) (m' : zM) => ∃ r : Int, v = (0, r) ∧ (-3000000) ≤ r ∧ r ≤ 3000000 ∧ zInv m' ∧ zFr W_118 m0 m' ∧ (spn (zEk F5 F6 F7 F8 F2 F12 g4 g5 (zSa g2 g3 g1)) g0 a0 a1 a2 r)) = Q
  show zW E d 118 0 [(2, 0), (0, a0), (0, a1), (0, a2)] [] m0 Q
  refine zw_7 zr_118_0 rfl ?_
  refine zw_46r (s := 1) zr_118_1 rfl rfl rfl rfl ?_
  refine zw_3 zr_118_4 rfl ?_
  refine zw_3 zr_118_5 rfl ?_
  refine zw_C zr_118_6 (Or.inl rfl) zm_50 rfl rfl ⟨Nat.le_of_ble_eq_true rfl, Nat.le_of_ble_eq_true rfl, Nat.le_of_ble_eq_true rfl, rfl, by decide⟩ (by omega) (P := (fun v m' => zW E (d) 118 9 [(2, 0), (0, a0), (0, a1), (0, a2)] (if v.1 = 9 then [] else v :: []) m' Q)) ?_ (fun _ _ h => h)
  generalize hQ1 : (fun v m' => zW E (d) 118 9 [(2, 0), (0, a0), (0, a1), (0, a2)] (if v.1 = 9 then [] else v :: []) m' Q) = Q1
  show zW E (d - 1) 50 0 [(2, 1), (0, a0), (0, a1)] [] m0 Q1
  refine zw_7 zr_50_0 rfl ?_
  refine zw_3 zr_50_1 rfl ?_
  refine zw_C zr_50_2 (Or.inl rfl) zm_49 rfl rfl ⟨Nat.le_of_ble_eq_true rfl, Nat.le_of_ble_eq_true rfl, Nat.le_of_ble_eq_true rfl, rfl, by decide⟩ (by omega) (P := (fun v m' => zW E (d - 1) 50 5 [(2, 1), (0, a0), (0, a1)] (if v.1 = 9 then [] else v :: []) m' Q1)) ?_ (fun _ _ h => h)
  generalize hQ2 : (fun v m' => zW E (d - 1) 50 5 [(2, 1), (0, a0), (0, a1)] (if v.1 = 9 then [] else v :: []) m' Q1) = Q2
  show zW E (d - 1 - 1) 49 0 [(2, 1), (0, a0)] [] m0 Q2
  refine zw_3 zr_49_0 rfl ?_
  refine zw_40_0 zr_49_1 ?_ ?_
  · intro h1
    refine zw_push zr_49_16 ?_
    refine zw_R zr_49_17 (by decide) zm_49 (v := (0, 0)) (zRetB (by omega)) ?_
    rw [← hQ2]
    show zW E (d - 1) 50 5 [(2, 1), (0, a0), (0, a1)] [(0, 0)] m0 Q1
    refine zw_40_1 zr_50_5 ?_ ?_
    · intro h2
      refine zw_push zr_50_25 ?_
      refine zw_R zr_50_26 (by decide) zm_50 (v := (0, 0)) (zRetB (by omega)) ?_
      rw [← hQ1]
      show zW E (d) 118 9 [(2, 0), (0, a0), (0, a1), (0, a2)] [(0, 0)] m0 Q
      refine zw_40_1 zr_118_9 ?_ ?_
      · intro h3
        refine zw_push zr_118_21 ?_
        refine zw_R zr_118_23 (by decide) zm_118 (v := (0, (-100000))) rfl ?_
        rw [← hQ]; exact ⟨_, rfl, by omega, by omega, hI0, hF0, by first | exact spn_b rfl (by omega) | exact spn_q (by omega) rfl (zAg2_n zz (by omega)) | exact spn_n (by omega) rfl (zAg2_x zz (by omega)) (jn_n (fun i hi => by rw [← hG6]; exact ib_6 hI0 hi) (fun i hi => by rw [← hG7]; exact ib_7 hI0 hi) (by omega) hp0 (by omega) zz (by omega) (by omega)) | exact spn_0 (by omega) (by omega) (zAg2_x zz (by omega)) (jn_r (fun i hi => by rw [← hG6]; exact ib_6 hI0 hi) (fun i hi => by rw [← hG7]; exact ib_7 hI0 hi) (by omega) zz (by omega) (by omega)) (neg2 zz) | exact spn_1 (by omega) (by omega) (zAg2_x zz (by omega)) (jn_r (fun i hi => by rw [← hG6]; exact ib_6 hI0 hi) (fun i hi => by rw [← hG7]; exact ib_7 hI0 hi) (by omega) zz (by omega) (by omega)) zz⟩
      · intro h5; omega
    · intro h6; omega
  · intro h7
    refine zw_3 zr_49_4 rfl ?_
    refine zw_7 zr_49_5 rfl ?_
    refine zw_46i zr_49_6 hg0 rfl rfl rfl ?_
    refine zw_41_3 zr_49_9 ?_ ?_
    · intro h8
      refine zw_push zr_49_16 ?_
      refine zw_R zr_49_17 (by decide) zm_49 (v := (0, 0)) (zRetB (by omega)) ?_
      rw [← hQ2]
      show zW E (d - 1) 50 5 [(2, 1), (0, a0), (0, a1)] [(0, 0)] m0 Q1
      refine zw_40_1 zr_50_5 ?_ ?_
      · intro h9
        refine zw_push zr_50_25 ?_
        refine zw_R zr_50_26 (by decide) zm_50 (v := (0, 0)) (zRetB (by omega)) ?_
        rw [← hQ1]
        show zW E (d) 118 9 [(2, 0), (0, a0), (0, a1), (0, a2)] [(0, 0)] m0 Q
        refine zw_40_1 zr_118_9 ?_ ?_
        · intro h10
          refine zw_push zr_118_21 ?_
          refine zw_R zr_118_23 (by decide) zm_118 (v := (0, (-100000))) rfl ?_
          rw [← hQ]; exact ⟨_, rfl, by omega, by omega, hI0, hF0, by first | exact spn_b rfl (by omega) | exact spn_q (by omega) rfl (zAg2_n zz (by omega)) | exact spn_n (by omega) rfl (zAg2_x zz (by omega)) (jn_n (fun i hi => by rw [← hG6]; exact ib_6 hI0 hi) (fun i hi => by rw [← hG7]; exact ib_7 hI0 hi) (by omega) hp0 (by omega) zz (by omega) (by omega)) | exact spn_0 (by omega) (by omega) (zAg2_x zz (by omega)) (jn_r (fun i hi => by rw [← hG6]; exact ib_6 hI0 hi) (fun i hi => by rw [← hG7]; exact ib_7 hI0 hi) (by omega) zz (by omega) (by omega)) (neg2 zz) | exact spn_1 (by omega) (by omega) (zAg2_x zz (by omega)) (jn_r (fun i hi => by rw [← hG6]; exact ib_6 hI0 hi) (fun i hi => by rw [← hG7]; exact ib_7 hI0 hi) (by omega) zz (by omega) (by omega)) zz⟩
        · intro h12; omega
      · intro h13; omega
    · intro h14
      refine zw_push zr_49_12 ?_
      refine zw_42 zr_49_13 ?_
      refine zw_R zr_49_17 (by decide) zm_49 (v := (0, 1)) (zRetB (by omega)) ?_
      rw [← hQ2]
      show zW E (d - 1) 50 5 [(2, 1), (0, a0), (0, a1)] [(0, 1)] m0 Q1
      refine zw_40_1 zr_50_5 ?_ ?_
      · intro h15; omega
      · intro h16
        refine zw_7 zr_50_8 rfl ?_
        refine zw_3 zr_50_9 rfl ?_
        refine zw_C zr_50_10 (Or.inl rfl) zm_49 rfl rfl ⟨Nat.le_of_ble_eq_true rfl, Nat.le_of_ble_eq_true rfl, Nat.le_of_ble_eq_true rfl, rfl, by decide⟩ (by omega) (P := (fun v m' => zW E (d - 1) 50 13 [(2, 1), (0, a0), (0, a1)] (if v.1 = 9 then [] else v :: []) m' Q1)) ?_ (fun _ _ h => h)
        generalize hQ2 : (fun v m' => zW E (d - 1) 50 13 [(2, 1), (0, a0), (0, a1)] (if v.1 = 9 then [] else v :: []) m' Q1) = Q2
        show zW E (d - 1 - 1) 49 0 [(2, 1), (0, a1)] [] m0 Q2
        refine zw_3 zr_49_0 rfl ?_
        refine zw_40_0 zr_49_1 ?_ ?_
        · intro h17
          refine zw_push zr_49_16 ?_
          refine zw_R zr_49_17 (by decide) zm_49 (v := (0, 0)) (zRetB (by omega)) ?_
          rw [← hQ2]
          show zW E (d - 1) 50 13 [(2, 1), (0, a0), (0, a1)] [(0, 0)] m0 Q1
          refine zw_40_1 zr_50_13 ?_ ?_
          · intro h18
            refine zw_push zr_50_25 ?_
            refine zw_R zr_50_26 (by decide) zm_50 (v := (0, 0)) (zRetB (by omega)) ?_
            rw [← hQ1]
            show zW E (d) 118 9 [(2, 0), (0, a0), (0, a1), (0, a2)] [(0, 0)] m0 Q
            refine zw_40_1 zr_118_9 ?_ ?_
            · intro h19
              refine zw_push zr_118_21 ?_
              refine zw_R zr_118_23 (by decide) zm_118 (v := (0, (-100000))) rfl ?_
              rw [← hQ]; exact ⟨_, rfl, by omega, by omega, hI0, hF0, by first | exact spn_b rfl (by omega) | exact spn_q (by omega) rfl (zAg2_n zz (by omega)) | exact spn_n (by omega) rfl (zAg2_x zz (by omega)) (jn_n (fun i hi => by rw [← hG6]; exact ib_6 hI0 hi) (fun i hi => by rw [← hG7]; exact ib_7 hI0 hi) (by omega) hp0 (by omega) zz (by omega) (by omega)) | exact spn_0 (by omega) (by omega) (zAg2_x zz (by omega)) (jn_r (fun i hi => by rw [← hG6]; exact ib_6 hI0 hi) (fun i hi => by rw [← hG7]; exact ib_7 hI0 hi) (by omega) zz (by omega) (by omega)) (neg2 zz) | exact spn_1 (by omega) (by omega) (zAg2_x zz (by omega)) (jn_r (fun i hi => by rw [← hG6]; exact ib_6 hI0 hi) (fun i hi => by rw [← hG7]; exact ib_7 hI0 hi) (by omega) zz (by omega) (by omega)) zz⟩
            · intro h21; omega
          · intro h22; omega
        · intro h23
          refine zw_3 zr_49_4 rfl ?_
          refine zw_7 zr_49_5 rfl ?_
          refine zw_46i zr_49_6 hg0 rfl rfl rfl ?_
          refine zw_41_3 zr_49_9 ?_ ?_
          · intro h24
            refine zw_push zr_49_16 ?_
            refine zw_R zr_49_17 (by decide) zm_49 (v := (0, 0)) (zRetB (by omega)) ?_
            rw [← hQ2]
            show zW E (d - 1) 50 13 [(2, 1), (0, a0), (0, a1)] [(0, 0)] m0 Q1
            refine zw_40_1 zr_50_13 ?_ ?_
            · intro h25
              refine zw_push zr_50_25 ?_
              refine zw_R zr_50_26 (by decide) zm_50 (v := (0, 0)) (zRetB (by omega)) ?_
              rw [← hQ1]
              show zW E (d) 118 9 [(2, 0), (0, a0), (0, a1), (0, a2)] [(0, 0)] m0 Q
              refine zw_40_1 zr_118_9 ?_ ?_
              · intro h26
                refine zw_push zr_118_21 ?_
                refine zw_R zr_118_23 (by decide) zm_118 (v := (0, (-100000))) rfl ?_
                rw [← hQ]; exact ⟨_, rfl, by omega, by omega, hI0, hF0, by first | exact spn_b rfl (by omega) | exact spn_q (by omega) rfl (zAg2_n zz (by omega)) | exact spn_n (by omega) rfl (zAg2_x zz (by omega)) (jn_n (fun i hi => by rw [← hG6]; exact ib_6 hI0 hi) (fun i hi => by rw [← hG7]; exact ib_7 hI0 hi) (by omega) hp0 (by omega) zz (by omega) (by omega)) | exact spn_0 (by omega) (by omega) (zAg2_x zz (by omega)) (jn_r (fun i hi => by rw [← hG6]; exact ib_6 hI0 hi) (fun i hi => by rw [← hG7]; exact ib_7 hI0 hi) (by omega) zz (by omega) (by omega)) (neg2 zz) | exact spn_1 (by omega) (by omega) (zAg2_x zz (by omega)) (jn_r (fun i hi => by rw [← hG6]; exact ib_6 hI0 hi) (fun i hi => by rw [← hG7]; exact ib_7 hI0 hi) (by omega) zz (by omega) (by omega)) zz⟩
              · intro h28; omega
            · intro h29; omega
          · intro h30
            refine zw_push zr_49_12 ?_
            refine zw_42 zr_49_13 ?_
            refine zw_R zr_49_17 (by decide) zm_49 (v := (0, 1)) (zRetB (by omega)) ?_
            rw [← hQ2]
            show zW E (d - 1) 50 13 [(2, 1), (0, a0), (0, a1)] [(0, 1)] m0 Q1
            refine zw_40_1 zr_50_13 ?_ ?_
            · intro h31; omega
            · intro h32
              refine zw_3 zr_50_16 rfl ?_
              refine zw_3 zr_50_17 rfl ?_
              refine zw_41_1 zr_50_18 ?_ ?_
              · intro h33
                refine zw_push zr_50_25 ?_
                refine zw_R zr_50_26 (by decide) zm_50 (v := (0, 0)) (zRetB (by omega)) ?_
                rw [← hQ1]
                show zW E (d) 118 9 [(2, 0), (0, a0), (0, a1), (0, a2)] [(0, 0)] m0 Q
                refine zw_40_1 zr_118_9 ?_ ?_
                · intro h34
                  refine zw_push zr_118_21 ?_
                  refine zw_R zr_118_23 (by decide) zm_118 (v := (0, (-100000))) rfl ?_
                  rw [← hQ]; exact ⟨_, rfl, by omega, by omega, hI0, hF0, by first | exact spn_b rfl (by omega) | exact spn_q (by omega) rfl (zAg2_n zz (by omega)) | exact spn_n (by omega) rfl (zAg2_x zz (by omega)) (jn_n (fun i hi => by rw [← hG6]; exact ib_6 hI0 hi) (fun i hi => by rw [← hG7]; exact ib_7 hI0 hi) (by omega) hp0 (by omega) zz (by omega) (by omega)) | exact spn_0 (by omega) (by omega) (zAg2_x zz (by omega)) (jn_r (fun i hi => by rw [← hG6]; exact ib_6 hI0 hi) (fun i hi => by rw [← hG7]; exact ib_7 hI0 hi) (by omega) zz (by omega) (by omega)) (neg2 zz) | exact spn_1 (by omega) (by omega) (zAg2_x zz (by omega)) (jn_r (fun i hi => by rw [← hG6]; exact ib_6 hI0 hi) (fun i hi => by rw [← hG7]; exact ib_7 hI0 hi) (by omega) zz (by omega) (by omega)) zz⟩
                · intro h36; omega
              · intro h37
                refine zw_push zr_50_21 ?_
                refine zw_42 zr_50_22 ?_
                refine zw_R zr_50_26 (by decide) zm_50 (v := (0, 1)) (zRetB (by omega)) ?_
                rw [← hQ1]
                show zW E (d) 118 9 [(2, 0), (0, a0), (0, a1), (0, a2)] [(0, 1)] m0 Q
                refine zw_40_1 zr_118_9 ?_ ?_
                · intro h38; omega
                · intro h39
                  refine zw_3 zr_118_12 rfl ?_
                  refine zw_push zr_118_13 ?_
                  refine zw_push zr_118_14 ?_
                  refine zw_C zr_118_15 (Or.inr rfl) zm_100 rfl rfl ⟨Nat.le_of_ble_eq_true rfl, Nat.le_of_ble_eq_true rfl, Nat.le_of_ble_eq_true rfl, rfl, by decide⟩ (by omega) (P := (fun v m' => zW E (d) 118 18 [(2, 0), (0, a0), (0, a1), (0, a2)] (if v.1 = 9 then [] else v :: []) m' Q)) ?_ (fun _ _ h => h)
                  generalize hQ1 : (fun v m' => zW E (d) 118 18 [(2, 0), (0, a0), (0, a1), (0, a2)] (if v.1 = 9 then [] else v :: []) m' Q) = Q1
                  show zW E (d - 1) 100 0 [(0, a2), (0, 0), (0, 1)] [] m0 Q1
                  refine zw_3 zr_100_0 rfl ?_
                  refine zw_3 zr_100_1 rfl ?_
                  refine zw_41_0 zr_100_2 ?_ ?_
                  · intro h40
                    refine zw_push zr_100_14 ?_
                    refine zw_R zr_100_15 (by decide) zm_100 (v := (0, 0)) (zRetB (by omega)) ?_
                    rw [← hQ1]
                    show zW E (d) 118 18 [(2, 0), (0, a0), (0, a1), (0, a2)] [(0, 0)] m0 Q
                    refine zw_40_4 zr_118_18 ?_ ?_
                    · intro h41; omega
                    · intro h42
                      refine zw_push zr_118_21 ?_
                      refine zw_R zr_118_23 (by decide) zm_118 (v := (0, (-100000))) rfl ?_
                      rw [← hQ]; exact ⟨_, rfl, by omega, by omega, hI0, hF0, by first | exact spn_b rfl (by omega) | exact spn_q (by omega) rfl (zAg2_n zz (by omega)) | exact spn_n (by omega) rfl (zAg2_x zz (by omega)) (jn_n (fun i hi => by rw [← hG6]; exact ib_6 hI0 hi) (fun i hi => by rw [← hG7]; exact ib_7 hI0 hi) (by omega) hp0 (by omega) zz (by omega) (by omega)) | exact spn_0 (by omega) (by omega) (zAg2_x zz (by omega)) (jn_r (fun i hi => by rw [← hG6]; exact ib_6 hI0 hi) (fun i hi => by rw [← hG7]; exact ib_7 hI0 hi) (by omega) zz (by omega) (by omega)) (neg2 zz) | exact spn_1 (by omega) (by omega) (zAg2_x zz (by omega)) (jn_r (fun i hi => by rw [← hG6]; exact ib_6 hI0 hi) (fun i hi => by rw [← hG7]; exact ib_7 hI0 hi) (by omega) zz (by omega) (by omega)) zz⟩
                  · intro h44
                    refine zw_3 zr_100_5 rfl ?_
                    refine zw_3 zr_100_6 rfl ?_
                    refine zw_41_2 zr_100_7 ?_ ?_
                    · intro h45
                      refine zw_push zr_100_14 ?_
                      refine zw_R zr_100_15 (by decide) zm_100 (v := (0, 0)) (zRetB (by omega)) ?_
                      rw [← hQ1]
                      show zW E (d) 118 18 [(2, 0), (0, a0), (0, a1), (0, a2)] [(0, 0)] m0 Q
                      refine zw_40_4 zr_118_18 ?_ ?_
                      · intro h46; omega
                      · intro h47
                        refine zw_push zr_118_21 ?_
                        refine zw_R zr_118_23 (by decide) zm_118 (v := (0, (-100000))) rfl ?_
                        rw [← hQ]; exact ⟨_, rfl, by omega, by omega, hI0, hF0, by first | exact spn_b rfl (by omega) | exact spn_q (by omega) rfl (zAg2_n zz (by omega)) | exact spn_n (by omega) rfl (zAg2_x zz (by omega)) (jn_n (fun i hi => by rw [← hG6]; exact ib_6 hI0 hi) (fun i hi => by rw [← hG7]; exact ib_7 hI0 hi) (by omega) hp0 (by omega) zz (by omega) (by omega)) | exact spn_0 (by omega) (by omega) (zAg2_x zz (by omega)) (jn_r (fun i hi => by rw [← hG6]; exact ib_6 hI0 hi) (fun i hi => by rw [← hG7]; exact ib_7 hI0 hi) (by omega) zz (by omega) (by omega)) (neg2 zz) | exact spn_1 (by omega) (by omega) (zAg2_x zz (by omega)) (jn_r (fun i hi => by rw [← hG6]; exact ib_6 hI0 hi) (fun i hi => by rw [← hG7]; exact ib_7 hI0 hi) (by omega) zz (by omega) (by omega)) zz⟩
                    · intro h49
                      refine zw_push zr_100_10 ?_
                      refine zw_42 zr_100_11 ?_
                      refine zw_R zr_100_15 (by decide) zm_100 (v := (0, 1)) (zRetB (by omega)) ?_
                      rw [← hQ1]
                      show zW E (d) 118 18 [(2, 0), (0, a0), (0, a1), (0, a2)] [(0, 1)] m0 Q
                      refine zw_40_4 zr_118_18 ?_ ?_
                      · intro h50
                        refine zw_7 zr_118_24 rfl ?_
                        refine zw_46r (s := 55) zr_118_25 rfl rfl rfl rfl ?_
                        refine zw_C zr_118_28 (Or.inl rfl) zm_84 rfl rfl ⟨Nat.le_of_ble_eq_true rfl, Nat.le_of_ble_eq_true rfl, Nat.le_of_ble_eq_true rfl, rfl, by decide⟩ (by omega) (th_84 (d := d - 1) (by omega) hI0  (g0 := g0) (g1 := g1) (g2 := g2) (g3 := g3) (g4 := g4) (g5 := g5)  (F2 := F2) (F5 := F5) (F6 := F6) (F7 := F7) (F8 := F8) (F12 := F12) hg0 hg1 hg2 hg3 hg4 hg5 hG2 hG5 hG6 hG7 hG8 hG12  (hp0)) ?_
                        rintro _ m52 ⟨r53, rfl, hr53a, hr53b, hIm52, gm52, po0_r53⟩
                        have hFm52 : zFr W_118 m0 m52 := hF0.trans gm52 rfl
                        have km52_1_0 : m52 1 0 = g0 := (gm52 1 0 rfl).trans hg0
                        have km52_1_1 : m52 1 1 = g1 := (gm52 1 1 rfl).trans hg1
                        have km52_1_2 : m52 1 2 = g2 := (gm52 1 2 rfl).trans hg2
                        have km52_1_3 : m52 1 3 = g3 := (gm52 1 3 rfl).trans hg3
                        have km52_1_4 : m52 1 4 = g4 := (gm52 1 4 rfl).trans hg4
                        have km52_1_5 : m52 1 5 = g5 := (gm52 1 5 rfl).trans hg5
                        have fm52_2 : m52 2 = F2 := (funext fun k => gm52 2 k rfl).trans hG2
                        have fm52_5 : m52 5 = F5 := (funext fun k => gm52 5 k rfl).trans hG5
                        have fm52_6 : m52 6 = F6 := (funext fun k => gm52 6 k rfl).trans hG6
                        have fm52_7 : m52 7 = F7 := (funext fun k => gm52 7 k rfl).trans hG7
                        have fm52_8 : m52 8 = F8 := (funext fun k => gm52 8 k rfl).trans hG8
                        have fm52_12 : m52 12 = F12 := (funext fun k => gm52 12 k rfl).trans hG12
                        show zW E (d) 118 31 [(2, 0), (0, a0), (0, a1), (0, a2)] [(0, r53)] m52 Q
                        refine zw_40_4 zr_118_31 ?_ ?_
                        · intro h54
                          refine zw_7 zr_118_37 rfl ?_
                          refine zw_46r (s := 60) zr_118_38 rfl rfl rfl rfl ?_
                          refine zw_3 zr_118_41 rfl ?_
                          refine zw_3 zr_118_42 rfl ?_
                          refine zw_C zr_118_43 (Or.inl rfl) zm_68 rfl rfl ⟨Nat.le_of_ble_eq_true rfl, Nat.le_of_ble_eq_true rfl, Nat.le_of_ble_eq_true rfl, rfl, by decide⟩ (by omega) (th_68 (d := d - 1) (by omega) hIm52 (a0 := a0) (a1 := a1) (g0 := g0) (g1 := g1) (g2 := g2) (g3 := g3)  (F6 := F6) (F7 := F7) (F61 := m52 61) (F62 := m52 62) km52_1_0 km52_1_1 km52_1_2 km52_1_3 fm52_6 fm52_7 rfl rfl (by omega) (by omega) ) ?_
                          rintro _ m55 ⟨r56, rfl, hr56a, hr56b, hIm55, gm55, po0_r56, po1_r56⟩
                          have hFm55 : zFr W_118 m0 m55 := hFm52.trans gm55 rfl
                          have km55_1_0 : m55 1 0 = g0 := (gm55 1 0 rfl).trans km52_1_0
                          have km55_1_1 : m55 1 1 = g1 := (gm55 1 1 rfl).trans km52_1_1
                          have km55_1_2 : m55 1 2 = g2 := (gm55 1 2 rfl).trans km52_1_2
                          have km55_1_3 : m55 1 3 = g3 := (gm55 1 3 rfl).trans km52_1_3
                          have km55_1_4 : m55 1 4 = g4 := (gm55 1 4 rfl).trans km52_1_4
                          have km55_1_5 : m55 1 5 = g5 := (gm55 1 5 rfl).trans km52_1_5
                          have fm55_2 : m55 2 = F2 := (funext fun k => gm55 2 k rfl).trans fm52_2
                          have fm55_5 : m55 5 = F5 := (funext fun k => gm55 5 k rfl).trans fm52_5
                          have fm55_6 : m55 6 = F6 := (funext fun k => gm55 6 k rfl).trans fm52_6
                          have fm55_7 : m55 7 = F7 := (funext fun k => gm55 7 k rfl).trans fm52_7
                          have fm55_8 : m55 8 = F8 := (funext fun k => gm55 8 k rfl).trans fm52_8
                          have fm55_12 : m55 12 = F12 := (funext fun k => gm55 12 k rfl).trans fm52_12
                          show zW E (d) 118 46 [(2, 0), (0, a0), (0, a1), (0, a2)] [(0, r56)] m55 Q
                          refine zw_40_4 zr_118_46 ?_ ?_
                          · intro h57
                            refine zw_3 zr_118_52 rfl ?_
                            refine zw_40_4 zr_118_53 ?_ ?_
                            · intro h58
                              refine zw_7 zr_118_69 rfl ?_
                              refine zw_46r (s := 55) zr_118_70 rfl rfl rfl rfl ?_
                              refine zw_3 zr_118_73 rfl ?_
                              refine zw_3 zr_118_74 rfl ?_
                              refine zw_C zr_118_75 (Or.inl rfl) zm_85 rfl rfl ⟨Nat.le_of_ble_eq_true rfl, Nat.le_of_ble_eq_true rfl, Nat.le_of_ble_eq_true rfl, rfl, by decide⟩ (by omega) (th_85 (d := d - 1) (by omega) hIm55 (a0 := a0) (a1 := a1) (g0 := g0) (g1 := g1) (g2 := g2) (g3 := g3) (g4 := g4) (g5 := g5)  (F2 := F2) (F5 := F5) (F6 := F6) (F7 := F7) (F8 := F8) (F12 := F12) (F56 := m55 56) (F57 := m55 57) (F58 := m55 58) (F59 := m55 59) km55_1_0 km55_1_1 km55_1_2 km55_1_3 km55_1_4 km55_1_5 fm55_2 fm55_5 fm55_6 fm55_7 fm55_8 fm55_12 rfl rfl rfl rfl (by omega) (by omega) ((zAg2_x po0_r53 (by omega))) (by first | exact jn_r (fun i hi => by rw [← hG6]; exact ib_6 hI0 hi) (fun i hi => by rw [← hG7]; exact ib_7 hI0 hi) (by omega) po0_r56 (by omega) (by omega) | exact rcl_sy edS_sy (jn_r (fun i hi => by rw [← hG6]; exact ib_6 hI0 hi) (fun i hi => by rw [← hG7]; exact ib_7 hI0 hi) (by omega) po0_r56 (by omega) (by omega)))) ?_
                              rintro _ m61 ⟨r62, rfl, hr62a, hr62b, hIm61, gm61, po0_r62⟩
                              have hFm61 : zFr W_118 m0 m61 := hFm55.trans gm61 rfl
                              have km61_1_0 : m61 1 0 = g0 := (gm61 1 0 rfl).trans km55_1_0
                              have km61_1_1 : m61 1 1 = g1 := (gm61 1 1 rfl).trans km55_1_1
                              have km61_1_2 : m61 1 2 = g2 := (gm61 1 2 rfl).trans km55_1_2
                              have km61_1_3 : m61 1 3 = g3 := (gm61 1 3 rfl).trans km55_1_3
                              have km61_1_4 : m61 1 4 = g4 := (gm61 1 4 rfl).trans km55_1_4
                              have km61_1_5 : m61 1 5 = g5 := (gm61 1 5 rfl).trans km55_1_5
                              have fm61_2 : m61 2 = F2 := (funext fun k => gm61 2 k rfl).trans fm55_2
                              have fm61_5 : m61 5 = F5 := (funext fun k => gm61 5 k rfl).trans fm55_5
                              have fm61_6 : m61 6 = F6 := (funext fun k => gm61 6 k rfl).trans fm55_6
                              have fm61_7 : m61 7 = F7 := (funext fun k => gm61 7 k rfl).trans fm55_7
                              have fm61_8 : m61 8 = F8 := (funext fun k => gm61 8 k rfl).trans fm55_8
                              have fm61_12 : m61 12 = F12 := (funext fun k => gm61 12 k rfl).trans fm55_12
                              show zW E (d) 118 78 [(2, 0), (0, a0), (0, a1), (0, a2)] [(0, r62)] m61 Q
                              refine zw_R zr_118_78 (by decide) zm_118 (v := (0, r62)) rfl ?_
                              rw [← hQ]; exact ⟨_, rfl, by omega, by omega, hIm61, hFm61, by first | exact spn_b rfl (by omega) | exact spn_q (by omega) rfl (zAg2_n po0_r53 (by omega)) | exact spn_n (by omega) rfl (zAg2_x po0_r53 (by omega)) (jn_n (fun i hi => by rw [← hG6]; exact ib_6 hI0 hi) (fun i hi => by rw [← hG7]; exact ib_7 hI0 hi) (by omega) hp0 (by omega) po0_r56 (by omega) (by omega)) | exact spn_0 (by omega) (by omega) (zAg2_x po0_r53 (by omega)) (jn_r (fun i hi => by rw [← hG6]; exact ib_6 hI0 hi) (fun i hi => by rw [← hG7]; exact ib_7 hI0 hi) (by omega) po0_r56 (by omega) (by omega)) (neg2 po0_r62) | exact spn_1 (by omega) (by omega) (zAg2_x po0_r53 (by omega)) (jn_r (fun i hi => by rw [← hG6]; exact ib_6 hI0 hi) (fun i hi => by rw [← hG7]; exact ib_7 hI0 hi) (by omega) po0_r56 (by omega) (by omega)) po0_r62⟩
                            · intro h64
                              refine zw_7 zr_118_56 rfl ?_
                              refine zw_46r (s := 55) zr_118_57 rfl rfl rfl rfl ?_
                              refine zw_3 zr_118_60 rfl ?_
                              refine zw_3 zr_118_61 rfl ?_
                              refine zw_C zr_118_62 (Or.inl rfl) zm_85 rfl rfl ⟨Nat.le_of_ble_eq_true rfl, Nat.le_of_ble_eq_true rfl, Nat.le_of_ble_eq_true rfl, rfl, by decide⟩ (by omega) (th_85 (d := d - 1) (by omega) hIm55 (a0 := a1) (a1 := a0) (g0 := g0) (g1 := g1) (g2 := g2) (g3 := g3) (g4 := g4) (g5 := g5)  (F2 := F2) (F5 := F5) (F6 := F6) (F7 := F7) (F8 := F8) (F12 := F12) (F56 := m55 56) (F57 := m55 57) (F58 := m55 58) (F59 := m55 59) km55_1_0 km55_1_1 km55_1_2 km55_1_3 km55_1_4 km55_1_5 fm55_2 fm55_5 fm55_6 fm55_7 fm55_8 fm55_12 rfl rfl rfl rfl (by omega) (by omega) ((zAg2_x po0_r53 (by omega))) (by first | exact jn_r (fun i hi => by rw [← hG6]; exact ib_6 hI0 hi) (fun i hi => by rw [← hG7]; exact ib_7 hI0 hi) (by omega) po0_r56 (by omega) (by omega) | exact rcl_sy edS_sy (jn_r (fun i hi => by rw [← hG6]; exact ib_6 hI0 hi) (fun i hi => by rw [← hG7]; exact ib_7 hI0 hi) (by omega) po0_r56 (by omega) (by omega)))) ?_
                              rintro _ m67 ⟨r68, rfl, hr68a, hr68b, hIm67, gm67, po0_r68⟩
                              have hFm67 : zFr W_118 m0 m67 := hFm55.trans gm67 rfl
                              have km67_1_0 : m67 1 0 = g0 := (gm67 1 0 rfl).trans km55_1_0
                              have km67_1_1 : m67 1 1 = g1 := (gm67 1 1 rfl).trans km55_1_1
                              have km67_1_2 : m67 1 2 = g2 := (gm67 1 2 rfl).trans km55_1_2
                              have km67_1_3 : m67 1 3 = g3 := (gm67 1 3 rfl).trans km55_1_3
                              have km67_1_4 : m67 1 4 = g4 := (gm67 1 4 rfl).trans km55_1_4
                              have km67_1_5 : m67 1 5 = g5 := (gm67 1 5 rfl).trans km55_1_5
                              have fm67_2 : m67 2 = F2 := (funext fun k => gm67 2 k rfl).trans fm55_2
                              have fm67_5 : m67 5 = F5 := (funext fun k => gm67 5 k rfl).trans fm55_5
                              have fm67_6 : m67 6 = F6 := (funext fun k => gm67 6 k rfl).trans fm55_6
                              have fm67_7 : m67 7 = F7 := (funext fun k => gm67 7 k rfl).trans fm55_7
                              have fm67_8 : m67 8 = F8 := (funext fun k => gm67 8 k rfl).trans fm55_8
                              have fm67_12 : m67 12 = F12 := (funext fun k => gm67 12 k rfl).trans fm55_12
                              show zW E (d) 118 65 [(2, 0), (0, a0), (0, a1), (0, a2)] [(0, r68)] m67 Q
                              refine zw_38 zr_118_65 (by omega) ?_
                              refine zw_42 zr_118_66 ?_
                              refine zw_R zr_118_78 (by decide) zm_118 (v := (0, (-r68))) rfl ?_
                              rw [← hQ]; exact ⟨_, rfl, by omega, by omega, hIm67, hFm67, by first | exact spn_b rfl (by omega) | exact spn_q (by omega) rfl (zAg2_n po0_r53 (by omega)) | exact spn_n (by omega) rfl (zAg2_x po0_r53 (by omega)) (jn_n (fun i hi => by rw [← hG6]; exact ib_6 hI0 hi) (fun i hi => by rw [← hG7]; exact ib_7 hI0 hi) (by omega) hp0 (by omega) po0_r56 (by omega) (by omega)) | exact spn_0 (by omega) (by omega) (zAg2_x po0_r53 (by omega)) (jn_r (fun i hi => by rw [← hG6]; exact ib_6 hI0 hi) (fun i hi => by rw [← hG7]; exact ib_7 hI0 hi) (by omega) po0_r56 (by omega) (by omega)) (neg2 po0_r68) | exact spn_1 (by omega) (by omega) (zAg2_x po0_r53 (by omega)) (jn_r (fun i hi => by rw [← hG6]; exact ib_6 hI0 hi) (fun i hi => by rw [← hG7]; exact ib_7 hI0 hi) (by omega) po0_r56 (by omega) (by omega)) po0_r68⟩
                          · intro h70
                            refine zw_push zr_118_49 ?_
                            refine zw_R zr_118_51 (by decide) zm_118 (v := (0, (-300000))) rfl ?_
                            rw [← hQ]; exact ⟨_, rfl, by omega, by omega, hIm55, hFm55, by first | exact spn_b rfl (by omega) | exact spn_q (by omega) rfl (zAg2_n po0_r53 (by omega)) | exact spn_n (by omega) rfl (zAg2_x po0_r53 (by omega)) (jn_n (fun i hi => by rw [← hG6]; exact ib_6 hI0 hi) (fun i hi => by rw [← hG7]; exact ib_7 hI0 hi) (by omega) hp0 (by omega) po0_r56 (by omega) (by omega)) | exact spn_0 (by omega) (by omega) (zAg2_x po0_r53 (by omega)) (jn_r (fun i hi => by rw [← hG6]; exact ib_6 hI0 hi) (fun i hi => by rw [← hG7]; exact ib_7 hI0 hi) (by omega) po0_r56 (by omega) (by omega)) (neg2 zz) | exact spn_1 (by omega) (by omega) (zAg2_x po0_r53 (by omega)) (jn_r (fun i hi => by rw [← hG6]; exact ib_6 hI0 hi) (fun i hi => by rw [← hG7]; exact ib_7 hI0 hi) (by omega) po0_r56 (by omega) (by omega)) zz⟩
                        · intro h72
                          refine zw_push zr_118_34 ?_
                          refine zw_R zr_118_36 (by decide) zm_118 (v := (0, (-200000))) rfl ?_
                          rw [← hQ]; exact ⟨_, rfl, by omega, by omega, hIm52, hFm52, by first | exact spn_b rfl (by omega) | exact spn_q (by omega) rfl (zAg2_n po0_r53 (by omega)) | exact spn_n (by omega) rfl (zAg2_x po0_r53 (by omega)) (jn_n (fun i hi => by rw [← hG6]; exact ib_6 hI0 hi) (fun i hi => by rw [← hG7]; exact ib_7 hI0 hi) (by omega) hp0 (by omega) zz (by omega) (by omega)) | exact spn_0 (by omega) (by omega) (zAg2_x po0_r53 (by omega)) (jn_r (fun i hi => by rw [← hG6]; exact ib_6 hI0 hi) (fun i hi => by rw [← hG7]; exact ib_7 hI0 hi) (by omega) zz (by omega) (by omega)) (neg2 zz) | exact spn_1 (by omega) (by omega) (zAg2_x po0_r53 (by omega)) (jn_r (fun i hi => by rw [← hG6]; exact ib_6 hI0 hi) (fun i hi => by rw [← hG7]; exact ib_7 hI0 hi) (by omega) zz (by omega) (by omega)) zz⟩
                      · intro h74; omega

abbrev W_186 : List (Nat × Nat) := [(80, 1000)]
set_option maxHeartbeats 8000000 in
theorem th_186 {E : zE} {d : Nat} {m0 : zM} {a0 : Int} {a1 : Int} {a2 : Int} {g0 : Int} {g1 : Int} {F70 : Nat → Int} {F80 : Nat → Int} (hd : 4 ≤ d) (hI0 : zInv m0) (hg0 : m0 70 822 = g0) (hg1 : m0 70 823 = g1) (hG70 : m0 70 = F70) (hG80 : m0 80 = F80) (ha0 : (-2147483648) ≤ a0 ∧ a0 ≤ 2147483647) (ha1 : (-2147483648) ≤ a1 ∧ a1 ≤ 2147483647) (ha2 : (-2147483648) ≤ a2 ∧ a2 ≤ 2147483647) (hp0 : zNe F70 g1) : zC E d 186 [(2, 69), (0, a0), (0, a1), (0, a2)] m0 (fun v m' => ∃ r : Int, v = (0, r) ∧ (-100000000) ≤ r ∧ r ≤ 99999999 ∧ zInv m' ∧ zFr W_186 m0 m' ∧ (spn (zEr F70 g1 (-1) (-1) (-1)) g0 a0 a1 a2 r)) := by
  have hF0 : zFr W_186 m0 m0 := zFr.rfl
  have bg0 : 0 ≤ m0 70 822 ∧ m0 70 822 ≤ 10 := ib_70_players hI0 (by omega)
  rw [hg0] at bg0
  have bg1 : 0 ≤ m0 70 823 ∧ m0 70 823 ≤ 60 := ib_70_meetings hI0 (by omega)
  rw [hg1] at bg1
  generalize hQ : (fun (v : zV) (m' : zM) => ∃ r : Int, v = (0, r) ∧ (-100000000) ≤ r ∧ r ≤ 99999999 ∧ zInv m' ∧ zFr W_186 m0 m' ∧ (spn (zEr F70 g1 (-1) (-1) (-1)) g0 a0 a1 a2 r)) = Q
  show zW E d 186 0 [(2, 69), (0, a0), (0, a1), (0, a2)] [] m0 Q
  refine zw_7 zr_186_0 rfl ?_
  refine zw_3 zr_186_1 rfl ?_
  refine zw_C zr_186_2 (Or.inl rfl) zm_143 rfl rfl ⟨Nat.le_of_ble_eq_true rfl, Nat.le_of_ble_eq_true rfl, Nat.le_of_ble_eq_true rfl, rfl, by decide⟩ (by omega) (P := (fun v m' => zW E (d) 186 5 [(2, 69), (0, a0), (0, a1), (0, a2)] (if v.1 = 9 then [] else v :: []) m' Q)) ?_ (fun _ _ h => h)
  generalize hQ1 : (fun v m' => zW E (d) 186 5 [(2, 69), (0, a0), (0, a1), (0, a2)] (if v.1 = 9 then [] else v :: []) m' Q) = Q1
  show zW E (d - 1) 143 0 [(2, 69), (0, a0)] [] m0 Q1
  refine zw_3 zr_143_0 rfl ?_
  refine zw_36 zr_143_1 ?_
  refine zw_push zr_143_2 ?_
  refine zw_7 zr_143_3 rfl ?_
  refine zw_C zr_143_4 (Or.inl rfl) zm_141 rfl rfl ⟨Nat.le_of_ble_eq_true rfl, Nat.le_of_ble_eq_true rfl, Nat.le_of_ble_eq_true rfl, rfl, by decide⟩ (by omega) (P := (fun v m' => zW E (d - 1) 143 7 [(2, 69), (0, a0)] (if v.1 = 9 then [(1, 0), (1, a0)] else v :: [(1, 0), (1, a0)]) m' Q1)) ?_ (fun _ _ h => h)
  generalize hQ2 : (fun v m' => zW E (d - 1) 143 7 [(2, 69), (0, a0)] (if v.1 = 9 then [(1, 0), (1, a0)] else v :: [(1, 0), (1, a0)]) m' Q1) = Q2
  show zW E (d - 1 - 1) 141 0 [(2, 69)] [] m0 Q2
  refine zw_7 zr_141_0 rfl ?_
  refine zw_46r (s := 70) zr_141_1 rfl rfl rfl rfl ?_
  refine zw_push zr_141_4 ?_
  refine zw_48k (c := 70) (len := 826) zr_141_7 rfl rfl (by omega) (by omega) (show (822 : Int).toNat = 822 by omega) hg0 ?_
  refine zw_R zr_141_8 (by decide) zm_141 (v := (0, g0)) rfl ?_
  rw [← hQ2]
  show zW E (d - 1) 143 7 [(2, 69), (0, a0)] [(0, g0), (1, 0), (1, a0)] m0 Q1
  refine zw_push zr_143_7 ?_
  refine zw_17 zr_143_8 (by omega) ?_
  refine zw_36 zr_143_9 ?_
  refine zw_C zr_143_10 (Or.inr rfl) zm_140 rfl rfl ⟨Nat.le_of_ble_eq_true rfl, Nat.le_of_ble_eq_true rfl, Nat.le_of_ble_eq_true rfl, rfl, by decide⟩ (by omega) (P := (fun v m' => zW E (d - 1) 143 13 [(2, 69), (0, a0)] (if v.1 = 9 then [] else v :: []) m' Q1)) ?_ (fun _ _ h => h)
  generalize hQ2 : (fun v m' => zW E (d - 1) 143 13 [(2, 69), (0, a0)] (if v.1 = 9 then [] else v :: []) m' Q1) = Q2
  show zW E (d - 1 - 1) 140 0 [(1, a0), (9, 0), (1, 0), (9, 0), (1, (g0 - 1)), (9, 0)] [] m0 Q2
  refine zw_5 zr_140_0 rfl ?_
  refine zw_5 zr_140_1 rfl ?_
  refine zw_39_0 zr_140_2 zr_140_3 ?_ ?_
  · intro h1
    refine zw_push zr_140_17 ?_
    refine zw_R zr_140_18 (by decide) zm_140 (v := (0, 0)) (zRetB (by omega)) ?_
    rw [← hQ2]
    show zW E (d - 1) 143 13 [(2, 69), (0, a0)] [(0, 0)] m0 Q1
    refine zw_R zr_143_13 (by decide) zm_143 (v := (0, 0)) (zRetB (by omega)) ?_
    rw [← hQ1]
    show zW E (d) 186 5 [(2, 69), (0, a0), (0, a1), (0, a2)] [(0, 0)] m0 Q
    refine zw_40_1 zr_186_5 ?_ ?_
    · intro h2
      refine zw_push zr_186_31 ?_
      refine zw_R zr_186_33 (by decide) zm_186 (v := (0, (-100000))) rfl ?_
      rw [← hQ]; exact ⟨_, rfl, by omega, by omega, hI0, hF0, by first | exact spn_b rfl (by omega) | exact spn_q (by omega) rfl (zFw_0 zz (by omega)) | exact spr_n (zEr_w (fun i hi => ⟨by rw [← hG70]; exact ib_70_m1 hI0 (by omega), by rw [← hG70]; exact ib_70_m2 hI0 (by omega)⟩) (fun k hk => by rw [← hG70]; exact ib_70_shape hI0 (by omega)) (by rw [← hG70]; exact ib_70_wide hI0 (k := 824) rfl) (by rw [← hG70]; exact ib_70_even hI0 (k := 825) rfl)) (zFw_1 zz (by omega)) (by omega) (by omega) rfl hy (by omega) | exact spr_0 (zEr_w (fun i hi => ⟨by rw [← hG70]; exact ib_70_m1 hI0 (by omega), by rw [← hG70]; exact ib_70_m2 hI0 (by omega)⟩) (fun k hk => by rw [← hG70]; exact ib_70_shape hI0 (by omega)) (by rw [← hG70]; exact ib_70_wide hI0 (k := 824) rfl) (by rw [← hG70]; exact ib_70_even hI0 (k := 825) rfl)) edS_sy (zFw_1 zz (by omega)) (by omega) (by omega) (by omega) hy (by omega) hz | exact spr_1 (zEr_w (fun i hi => ⟨by rw [← hG70]; exact ib_70_m1 hI0 (by omega), by rw [← hG70]; exact ib_70_m2 hI0 (by omega)⟩) (fun k hk => by rw [← hG70]; exact ib_70_shape hI0 (by omega)) (by rw [← hG70]; exact ib_70_wide hI0 (k := 824) rfl) (by rw [← hG70]; exact ib_70_even hI0 (k := 825) rfl)) edS_sy (zFw_1 zz (by omega)) (by omega) (by omega) (by omega) hy (by omega)⟩
    · intro h4; omega
  · intro h5
    refine zw_5 zr_140_6 rfl ?_
    refine zw_6 zr_140_7 rfl ?_
    refine zw_39_2 zr_140_9 zr_140_10 ?_ ?_
    · intro h6
      refine zw_push zr_140_17 ?_
      refine zw_R zr_140_18 (by decide) zm_140 (v := (0, 0)) (zRetB (by omega)) ?_
      rw [← hQ2]
      show zW E (d - 1) 143 13 [(2, 69), (0, a0)] [(0, 0)] m0 Q1
      refine zw_R zr_143_13 (by decide) zm_143 (v := (0, 0)) (zRetB (by omega)) ?_
      rw [← hQ1]
      show zW E (d) 186 5 [(2, 69), (0, a0), (0, a1), (0, a2)] [(0, 0)] m0 Q
      refine zw_40_1 zr_186_5 ?_ ?_
      · intro h7
        refine zw_push zr_186_31 ?_
        refine zw_R zr_186_33 (by decide) zm_186 (v := (0, (-100000))) rfl ?_
        rw [← hQ]; exact ⟨_, rfl, by omega, by omega, hI0, hF0, by first | exact spn_b rfl (by omega) | exact spn_q (by omega) rfl (zFw_0 zz (by omega)) | exact spr_n (zEr_w (fun i hi => ⟨by rw [← hG70]; exact ib_70_m1 hI0 (by omega), by rw [← hG70]; exact ib_70_m2 hI0 (by omega)⟩) (fun k hk => by rw [← hG70]; exact ib_70_shape hI0 (by omega)) (by rw [← hG70]; exact ib_70_wide hI0 (k := 824) rfl) (by rw [← hG70]; exact ib_70_even hI0 (k := 825) rfl)) (zFw_1 zz (by omega)) (by omega) (by omega) rfl hy (by omega) | exact spr_0 (zEr_w (fun i hi => ⟨by rw [← hG70]; exact ib_70_m1 hI0 (by omega), by rw [← hG70]; exact ib_70_m2 hI0 (by omega)⟩) (fun k hk => by rw [← hG70]; exact ib_70_shape hI0 (by omega)) (by rw [← hG70]; exact ib_70_wide hI0 (k := 824) rfl) (by rw [← hG70]; exact ib_70_even hI0 (k := 825) rfl)) edS_sy (zFw_1 zz (by omega)) (by omega) (by omega) (by omega) hy (by omega) hz | exact spr_1 (zEr_w (fun i hi => ⟨by rw [← hG70]; exact ib_70_m1 hI0 (by omega), by rw [← hG70]; exact ib_70_m2 hI0 (by omega)⟩) (fun k hk => by rw [← hG70]; exact ib_70_shape hI0 (by omega)) (by rw [← hG70]; exact ib_70_wide hI0 (k := 824) rfl) (by rw [← hG70]; exact ib_70_even hI0 (k := 825) rfl)) edS_sy (zFw_1 zz (by omega)) (by omega) (by omega) (by omega) hy (by omega)⟩
      · intro h9; omega
    · intro h10
      refine zw_push zr_140_13 ?_
      refine zw_42 zr_140_14 ?_
      refine zw_R zr_140_18 (by decide) zm_140 (v := (0, 1)) (zRetB (by omega)) ?_
      rw [← hQ2]
      show zW E (d - 1) 143 13 [(2, 69), (0, a0)] [(0, 1)] m0 Q1
      refine zw_R zr_143_13 (by decide) zm_143 (v := (0, 1)) (zRetB (by omega)) ?_
      rw [← hQ1]
      show zW E (d) 186 5 [(2, 69), (0, a0), (0, a1), (0, a2)] [(0, 1)] m0 Q
      refine zw_40_1 zr_186_5 ?_ ?_
      · intro h11; omega
      · intro h12
        refine zw_7 zr_186_8 rfl ?_
        refine zw_3 zr_186_9 rfl ?_
        refine zw_C zr_186_10 (Or.inl rfl) zm_143 rfl rfl ⟨Nat.le_of_ble_eq_true rfl, Nat.le_of_ble_eq_true rfl, Nat.le_of_ble_eq_true rfl, rfl, by decide⟩ (by omega) (P := (fun v m' => zW E (d) 186 13 [(2, 69), (0, a0), (0, a1), (0, a2)] (if v.1 = 9 then [] else v :: []) m' Q)) ?_ (fun _ _ h => h)
        generalize hQ1 : (fun v m' => zW E (d) 186 13 [(2, 69), (0, a0), (0, a1), (0, a2)] (if v.1 = 9 then [] else v :: []) m' Q) = Q1
        show zW E (d - 1) 143 0 [(2, 69), (0, a1)] [] m0 Q1
        refine zw_3 zr_143_0 rfl ?_
        refine zw_36 zr_143_1 ?_
        refine zw_push zr_143_2 ?_
        refine zw_7 zr_143_3 rfl ?_
        refine zw_C zr_143_4 (Or.inl rfl) zm_141 rfl rfl ⟨Nat.le_of_ble_eq_true rfl, Nat.le_of_ble_eq_true rfl, Nat.le_of_ble_eq_true rfl, rfl, by decide⟩ (by omega) (P := (fun v m' => zW E (d - 1) 143 7 [(2, 69), (0, a1)] (if v.1 = 9 then [(1, 0), (1, a1)] else v :: [(1, 0), (1, a1)]) m' Q1)) ?_ (fun _ _ h => h)
        generalize hQ2 : (fun v m' => zW E (d - 1) 143 7 [(2, 69), (0, a1)] (if v.1 = 9 then [(1, 0), (1, a1)] else v :: [(1, 0), (1, a1)]) m' Q1) = Q2
        show zW E (d - 1 - 1) 141 0 [(2, 69)] [] m0 Q2
        refine zw_7 zr_141_0 rfl ?_
        refine zw_46r (s := 70) zr_141_1 rfl rfl rfl rfl ?_
        refine zw_push zr_141_4 ?_
        refine zw_48k (c := 70) (len := 826) zr_141_7 rfl rfl (by omega) (by omega) (show (822 : Int).toNat = 822 by omega) hg0 ?_
        refine zw_R zr_141_8 (by decide) zm_141 (v := (0, g0)) rfl ?_
        rw [← hQ2]
        show zW E (d - 1) 143 7 [(2, 69), (0, a1)] [(0, g0), (1, 0), (1, a1)] m0 Q1
        refine zw_push zr_143_7 ?_
        refine zw_17 zr_143_8 (by omega) ?_
        refine zw_36 zr_143_9 ?_
        refine zw_C zr_143_10 (Or.inr rfl) zm_140 rfl rfl ⟨Nat.le_of_ble_eq_true rfl, Nat.le_of_ble_eq_true rfl, Nat.le_of_ble_eq_true rfl, rfl, by decide⟩ (by omega) (P := (fun v m' => zW E (d - 1) 143 13 [(2, 69), (0, a1)] (if v.1 = 9 then [] else v :: []) m' Q1)) ?_ (fun _ _ h => h)
        generalize hQ2 : (fun v m' => zW E (d - 1) 143 13 [(2, 69), (0, a1)] (if v.1 = 9 then [] else v :: []) m' Q1) = Q2
        show zW E (d - 1 - 1) 140 0 [(1, a1), (9, 0), (1, 0), (9, 0), (1, (g0 - 1)), (9, 0)] [] m0 Q2
        refine zw_5 zr_140_0 rfl ?_
        refine zw_5 zr_140_1 rfl ?_
        refine zw_39_0 zr_140_2 zr_140_3 ?_ ?_
        · intro h13
          refine zw_push zr_140_17 ?_
          refine zw_R zr_140_18 (by decide) zm_140 (v := (0, 0)) (zRetB (by omega)) ?_
          rw [← hQ2]
          show zW E (d - 1) 143 13 [(2, 69), (0, a1)] [(0, 0)] m0 Q1
          refine zw_R zr_143_13 (by decide) zm_143 (v := (0, 0)) (zRetB (by omega)) ?_
          rw [← hQ1]
          show zW E (d) 186 13 [(2, 69), (0, a0), (0, a1), (0, a2)] [(0, 0)] m0 Q
          refine zw_40_1 zr_186_13 ?_ ?_
          · intro h14
            refine zw_push zr_186_31 ?_
            refine zw_R zr_186_33 (by decide) zm_186 (v := (0, (-100000))) rfl ?_
            rw [← hQ]; exact ⟨_, rfl, by omega, by omega, hI0, hF0, by first | exact spn_b rfl (by omega) | exact spn_q (by omega) rfl (zFw_0 zz (by omega)) | exact spr_n (zEr_w (fun i hi => ⟨by rw [← hG70]; exact ib_70_m1 hI0 (by omega), by rw [← hG70]; exact ib_70_m2 hI0 (by omega)⟩) (fun k hk => by rw [← hG70]; exact ib_70_shape hI0 (by omega)) (by rw [← hG70]; exact ib_70_wide hI0 (k := 824) rfl) (by rw [← hG70]; exact ib_70_even hI0 (k := 825) rfl)) (zFw_1 zz (by omega)) (by omega) (by omega) rfl hy (by omega) | exact spr_0 (zEr_w (fun i hi => ⟨by rw [← hG70]; exact ib_70_m1 hI0 (by omega), by rw [← hG70]; exact ib_70_m2 hI0 (by omega)⟩) (fun k hk => by rw [← hG70]; exact ib_70_shape hI0 (by omega)) (by rw [← hG70]; exact ib_70_wide hI0 (k := 824) rfl) (by rw [← hG70]; exact ib_70_even hI0 (k := 825) rfl)) edS_sy (zFw_1 zz (by omega)) (by omega) (by omega) (by omega) hy (by omega) hz | exact spr_1 (zEr_w (fun i hi => ⟨by rw [← hG70]; exact ib_70_m1 hI0 (by omega), by rw [← hG70]; exact ib_70_m2 hI0 (by omega)⟩) (fun k hk => by rw [← hG70]; exact ib_70_shape hI0 (by omega)) (by rw [← hG70]; exact ib_70_wide hI0 (k := 824) rfl) (by rw [← hG70]; exact ib_70_even hI0 (k := 825) rfl)) edS_sy (zFw_1 zz (by omega)) (by omega) (by omega) (by omega) hy (by omega)⟩
          · intro h16; omega
        · intro h17
          refine zw_5 zr_140_6 rfl ?_
          refine zw_6 zr_140_7 rfl ?_
          refine zw_39_2 zr_140_9 zr_140_10 ?_ ?_
          · intro h18
            refine zw_push zr_140_17 ?_
            refine zw_R zr_140_18 (by decide) zm_140 (v := (0, 0)) (zRetB (by omega)) ?_
            rw [← hQ2]
            show zW E (d - 1) 143 13 [(2, 69), (0, a1)] [(0, 0)] m0 Q1
            refine zw_R zr_143_13 (by decide) zm_143 (v := (0, 0)) (zRetB (by omega)) ?_
            rw [← hQ1]
            show zW E (d) 186 13 [(2, 69), (0, a0), (0, a1), (0, a2)] [(0, 0)] m0 Q
            refine zw_40_1 zr_186_13 ?_ ?_
            · intro h19
              refine zw_push zr_186_31 ?_
              refine zw_R zr_186_33 (by decide) zm_186 (v := (0, (-100000))) rfl ?_
              rw [← hQ]; exact ⟨_, rfl, by omega, by omega, hI0, hF0, by first | exact spn_b rfl (by omega) | exact spn_q (by omega) rfl (zFw_0 zz (by omega)) | exact spr_n (zEr_w (fun i hi => ⟨by rw [← hG70]; exact ib_70_m1 hI0 (by omega), by rw [← hG70]; exact ib_70_m2 hI0 (by omega)⟩) (fun k hk => by rw [← hG70]; exact ib_70_shape hI0 (by omega)) (by rw [← hG70]; exact ib_70_wide hI0 (k := 824) rfl) (by rw [← hG70]; exact ib_70_even hI0 (k := 825) rfl)) (zFw_1 zz (by omega)) (by omega) (by omega) rfl hy (by omega) | exact spr_0 (zEr_w (fun i hi => ⟨by rw [← hG70]; exact ib_70_m1 hI0 (by omega), by rw [← hG70]; exact ib_70_m2 hI0 (by omega)⟩) (fun k hk => by rw [← hG70]; exact ib_70_shape hI0 (by omega)) (by rw [← hG70]; exact ib_70_wide hI0 (k := 824) rfl) (by rw [← hG70]; exact ib_70_even hI0 (k := 825) rfl)) edS_sy (zFw_1 zz (by omega)) (by omega) (by omega) (by omega) hy (by omega) hz | exact spr_1 (zEr_w (fun i hi => ⟨by rw [← hG70]; exact ib_70_m1 hI0 (by omega), by rw [← hG70]; exact ib_70_m2 hI0 (by omega)⟩) (fun k hk => by rw [← hG70]; exact ib_70_shape hI0 (by omega)) (by rw [← hG70]; exact ib_70_wide hI0 (k := 824) rfl) (by rw [← hG70]; exact ib_70_even hI0 (k := 825) rfl)) edS_sy (zFw_1 zz (by omega)) (by omega) (by omega) (by omega) hy (by omega)⟩
            · intro h21; omega
          · intro h22
            refine zw_push zr_140_13 ?_
            refine zw_42 zr_140_14 ?_
            refine zw_R zr_140_18 (by decide) zm_140 (v := (0, 1)) (zRetB (by omega)) ?_
            rw [← hQ2]
            show zW E (d - 1) 143 13 [(2, 69), (0, a1)] [(0, 1)] m0 Q1
            refine zw_R zr_143_13 (by decide) zm_143 (v := (0, 1)) (zRetB (by omega)) ?_
            rw [← hQ1]
            show zW E (d) 186 13 [(2, 69), (0, a0), (0, a1), (0, a2)] [(0, 1)] m0 Q
            refine zw_40_1 zr_186_13 ?_ ?_
            · intro h23; omega
            · intro h24
              refine zw_3 zr_186_16 rfl ?_
              refine zw_3 zr_186_17 rfl ?_
              refine zw_41_1 zr_186_18 ?_ ?_
              · intro h25
                refine zw_push zr_186_31 ?_
                refine zw_R zr_186_33 (by decide) zm_186 (v := (0, (-100000))) rfl ?_
                rw [← hQ]; exact ⟨_, rfl, by omega, by omega, hI0, hF0, by first | exact spn_b rfl (by omega) | exact spn_q (by omega) rfl (zFw_0 zz (by omega)) | exact spr_n (zEr_w (fun i hi => ⟨by rw [← hG70]; exact ib_70_m1 hI0 (by omega), by rw [← hG70]; exact ib_70_m2 hI0 (by omega)⟩) (fun k hk => by rw [← hG70]; exact ib_70_shape hI0 (by omega)) (by rw [← hG70]; exact ib_70_wide hI0 (k := 824) rfl) (by rw [← hG70]; exact ib_70_even hI0 (k := 825) rfl)) (zFw_1 zz (by omega)) (by omega) (by omega) rfl hy (by omega) | exact spr_0 (zEr_w (fun i hi => ⟨by rw [← hG70]; exact ib_70_m1 hI0 (by omega), by rw [← hG70]; exact ib_70_m2 hI0 (by omega)⟩) (fun k hk => by rw [← hG70]; exact ib_70_shape hI0 (by omega)) (by rw [← hG70]; exact ib_70_wide hI0 (k := 824) rfl) (by rw [← hG70]; exact ib_70_even hI0 (k := 825) rfl)) edS_sy (zFw_1 zz (by omega)) (by omega) (by omega) (by omega) hy (by omega) hz | exact spr_1 (zEr_w (fun i hi => ⟨by rw [← hG70]; exact ib_70_m1 hI0 (by omega), by rw [← hG70]; exact ib_70_m2 hI0 (by omega)⟩) (fun k hk => by rw [← hG70]; exact ib_70_shape hI0 (by omega)) (by rw [← hG70]; exact ib_70_wide hI0 (k := 824) rfl) (by rw [← hG70]; exact ib_70_even hI0 (k := 825) rfl)) edS_sy (zFw_1 zz (by omega)) (by omega) (by omega) (by omega) hy (by omega)⟩
              · intro h27
                refine zw_3 zr_186_21 rfl ?_
                refine zw_36 zr_186_22 ?_
                refine zw_push zr_186_23 ?_
                refine zw_push zr_186_24 ?_
                refine zw_C zr_186_25 (Or.inr rfl) zm_140 rfl rfl ⟨Nat.le_of_ble_eq_true rfl, Nat.le_of_ble_eq_true rfl, Nat.le_of_ble_eq_true rfl, rfl, by decide⟩ (by omega) (P := (fun v m' => zW E (d) 186 28 [(2, 69), (0, a0), (0, a1), (0, a2)] (if v.1 = 9 then [] else v :: []) m' Q)) ?_ (fun _ _ h => h)
                generalize hQ1 : (fun v m' => zW E (d) 186 28 [(2, 69), (0, a0), (0, a1), (0, a2)] (if v.1 = 9 then [] else v :: []) m' Q) = Q1
                show zW E (d - 1) 140 0 [(1, a2), (9, 0), (1, 0), (9, 0), (1, 1), (9, 0)] [] m0 Q1
                refine zw_5 zr_140_0 rfl ?_
                refine zw_5 zr_140_1 rfl ?_
                refine zw_39_0 zr_140_2 zr_140_3 ?_ ?_
                · intro h28
                  refine zw_push zr_140_17 ?_
                  refine zw_R zr_140_18 (by decide) zm_140 (v := (0, 0)) (zRetB (by omega)) ?_
                  rw [← hQ1]
                  show zW E (d) 186 28 [(2, 69), (0, a0), (0, a1), (0, a2)] [(0, 0)] m0 Q
                  refine zw_40_4 zr_186_28 ?_ ?_
                  · intro h29; omega
                  · intro h30
                    refine zw_push zr_186_31 ?_
                    refine zw_R zr_186_33 (by decide) zm_186 (v := (0, (-100000))) rfl ?_
                    rw [← hQ]; exact ⟨_, rfl, by omega, by omega, hI0, hF0, by first | exact spn_b rfl (by omega) | exact spn_q (by omega) rfl (zFw_0 zz (by omega)) | exact spr_n (zEr_w (fun i hi => ⟨by rw [← hG70]; exact ib_70_m1 hI0 (by omega), by rw [← hG70]; exact ib_70_m2 hI0 (by omega)⟩) (fun k hk => by rw [← hG70]; exact ib_70_shape hI0 (by omega)) (by rw [← hG70]; exact ib_70_wide hI0 (k := 824) rfl) (by rw [← hG70]; exact ib_70_even hI0 (k := 825) rfl)) (zFw_1 zz (by omega)) (by omega) (by omega) rfl hy (by omega) | exact spr_0 (zEr_w (fun i hi => ⟨by rw [← hG70]; exact ib_70_m1 hI0 (by omega), by rw [← hG70]; exact ib_70_m2 hI0 (by omega)⟩) (fun k hk => by rw [← hG70]; exact ib_70_shape hI0 (by omega)) (by rw [← hG70]; exact ib_70_wide hI0 (k := 824) rfl) (by rw [← hG70]; exact ib_70_even hI0 (k := 825) rfl)) edS_sy (zFw_1 zz (by omega)) (by omega) (by omega) (by omega) hy (by omega) hz | exact spr_1 (zEr_w (fun i hi => ⟨by rw [← hG70]; exact ib_70_m1 hI0 (by omega), by rw [← hG70]; exact ib_70_m2 hI0 (by omega)⟩) (fun k hk => by rw [← hG70]; exact ib_70_shape hI0 (by omega)) (by rw [← hG70]; exact ib_70_wide hI0 (k := 824) rfl) (by rw [← hG70]; exact ib_70_even hI0 (k := 825) rfl)) edS_sy (zFw_1 zz (by omega)) (by omega) (by omega) (by omega) hy (by omega)⟩
                · intro h32
                  refine zw_5 zr_140_6 rfl ?_
                  refine zw_6 zr_140_7 rfl ?_
                  refine zw_39_2 zr_140_9 zr_140_10 ?_ ?_
                  · intro h33
                    refine zw_push zr_140_17 ?_
                    refine zw_R zr_140_18 (by decide) zm_140 (v := (0, 0)) (zRetB (by omega)) ?_
                    rw [← hQ1]
                    show zW E (d) 186 28 [(2, 69), (0, a0), (0, a1), (0, a2)] [(0, 0)] m0 Q
                    refine zw_40_4 zr_186_28 ?_ ?_
                    · intro h34; omega
                    · intro h35
                      refine zw_push zr_186_31 ?_
                      refine zw_R zr_186_33 (by decide) zm_186 (v := (0, (-100000))) rfl ?_
                      rw [← hQ]; exact ⟨_, rfl, by omega, by omega, hI0, hF0, by first | exact spn_b rfl (by omega) | exact spn_q (by omega) rfl (zFw_0 zz (by omega)) | exact spr_n (zEr_w (fun i hi => ⟨by rw [← hG70]; exact ib_70_m1 hI0 (by omega), by rw [← hG70]; exact ib_70_m2 hI0 (by omega)⟩) (fun k hk => by rw [← hG70]; exact ib_70_shape hI0 (by omega)) (by rw [← hG70]; exact ib_70_wide hI0 (k := 824) rfl) (by rw [← hG70]; exact ib_70_even hI0 (k := 825) rfl)) (zFw_1 zz (by omega)) (by omega) (by omega) rfl hy (by omega) | exact spr_0 (zEr_w (fun i hi => ⟨by rw [← hG70]; exact ib_70_m1 hI0 (by omega), by rw [← hG70]; exact ib_70_m2 hI0 (by omega)⟩) (fun k hk => by rw [← hG70]; exact ib_70_shape hI0 (by omega)) (by rw [← hG70]; exact ib_70_wide hI0 (k := 824) rfl) (by rw [← hG70]; exact ib_70_even hI0 (k := 825) rfl)) edS_sy (zFw_1 zz (by omega)) (by omega) (by omega) (by omega) hy (by omega) hz | exact spr_1 (zEr_w (fun i hi => ⟨by rw [← hG70]; exact ib_70_m1 hI0 (by omega), by rw [← hG70]; exact ib_70_m2 hI0 (by omega)⟩) (fun k hk => by rw [← hG70]; exact ib_70_shape hI0 (by omega)) (by rw [← hG70]; exact ib_70_wide hI0 (k := 824) rfl) (by rw [← hG70]; exact ib_70_even hI0 (k := 825) rfl)) edS_sy (zFw_1 zz (by omega)) (by omega) (by omega) (by omega) hy (by omega)⟩
                  · intro h37
                    refine zw_push zr_140_13 ?_
                    refine zw_42 zr_140_14 ?_
                    refine zw_R zr_140_18 (by decide) zm_140 (v := (0, 1)) (zRetB (by omega)) ?_
                    rw [← hQ1]
                    show zW E (d) 186 28 [(2, 69), (0, a0), (0, a1), (0, a2)] [(0, 1)] m0 Q
                    refine zw_40_4 zr_186_28 ?_ ?_
                    · intro h38
                      refine zw_7 zr_186_34 rfl ?_
                      refine zw_push zr_186_35 ?_
                      refine zw_push zr_186_36 ?_
                      refine zw_push zr_186_37 ?_
                      refine zw_C zr_186_38 (Or.inl rfl) zm_184 rfl rfl ⟨Nat.le_of_ble_eq_true rfl, Nat.le_of_ble_eq_true rfl, Nat.le_of_ble_eq_true rfl, rfl, by decide⟩ (by omega) (th_184 (d := d - 1) (by omega) hI0 (a0 := (-1)) (a1 := (-1)) (a2 := (-1)) (g0 := g1)  (F70 := F70) (F80 := F80) hg1 hG70 hG80 (by omega) (by omega) (by omega) (hp0)) ?_
                      rintro _ m40 ⟨r41, rfl, hr41a, hr41b, hIm40, gm40, po0_r41⟩
                      have hFm40 : zFr W_186 m0 m40 := hF0.trans gm40 rfl
                      have km40_70_822 : m40 70 822 = g0 := (gm40 70 822 rfl).trans hg0
                      have km40_70_823 : m40 70 823 = g1 := (gm40 70 823 rfl).trans hg1
                      have fm40_70 : m40 70 = F70 := (funext fun k => gm40 70 k rfl).trans hG70
                      obtain ⟨f42, fm40_80⟩ : ∃ f, m40 80 = f := ⟨_, rfl⟩
                      try rw [fm40_80] at po0_r41
                      show zW E (d) 186 41 [(2, 69), (0, a0), (0, a1), (0, a2)] [(0, r41)] m40 Q
                      refine zw_40_4 zr_186_41 ?_ ?_
                      · intro h43
                        refine zw_7 zr_186_47 rfl ?_
                        refine zw_46r (s := 80) zr_186_48 rfl rfl rfl rfl ?_
                        refine zw_push zr_186_51 ?_
                        refine zw_3 zr_186_53 rfl ?_
                        refine zw_18 zr_186_54 (by omega) ?_
                        refine zw_3 zr_186_55 rfl ?_
                        refine zw_16 zr_186_56 (by omega) ?_
                        refine zw_48 (c := 80) (len := 100) zr_186_57 rfl rfl (by omega) (by omega) ?_
                        intro x44 ex44
                        have bx44 := ib_80 hIm40 (k := (((10 * a1) + a0)).toNat) (by omega)
                        rw [← ex44] at bx44
                        have qx44 : x44 = f42 (((10 * a1) + a0)).toNat := by rw [← fm40_80]; exact ex44
                        have hy := qx44
                        refine zw_push zr_186_58 ?_
                        refine zw_41_4 zr_186_60 ?_ ?_
                        · intro h46
                          refine zw_3 zr_186_66 rfl ?_
                          refine zw_40_4 zr_186_67 ?_ ?_
                          · intro h47
                            refine zw_7 zr_186_85 rfl ?_
                            refine zw_46r (s := 80) zr_186_86 rfl rfl rfl rfl ?_
                            refine zw_push zr_186_89 ?_
                            refine zw_3 zr_186_91 rfl ?_
                            refine zw_18 zr_186_92 (by omega) ?_
                            refine zw_3 zr_186_93 rfl ?_
                            refine zw_16 zr_186_94 (by omega) ?_
                            refine zw_48k (c := 80) (len := 100) zr_186_95 rfl rfl (by omega) (by omega) rfl ex44.symm ?_
                            refine zw_R zr_186_96 (by decide) zm_186 (v := (0, x44)) rfl ?_
                            rw [← hQ]; exact ⟨_, rfl, by omega, by omega, hIm40, hFm40, by first | exact spn_b rfl (by omega) | exact spn_q (by omega) rfl (zFw_0 po0_r41 (by omega)) | exact spr_n (zEr_w (fun i hi => ⟨by rw [← hG70]; exact ib_70_m1 hI0 (by omega), by rw [← hG70]; exact ib_70_m2 hI0 (by omega)⟩) (fun k hk => by rw [← hG70]; exact ib_70_shape hI0 (by omega)) (by rw [← hG70]; exact ib_70_wide hI0 (k := 824) rfl) (by rw [← hG70]; exact ib_70_even hI0 (k := 825) rfl)) (zFw_1 po0_r41 (by omega)) (by omega) (by omega) rfl hy (by omega) | exact spr_0 (zEr_w (fun i hi => ⟨by rw [← hG70]; exact ib_70_m1 hI0 (by omega), by rw [← hG70]; exact ib_70_m2 hI0 (by omega)⟩) (fun k hk => by rw [← hG70]; exact ib_70_shape hI0 (by omega)) (by rw [← hG70]; exact ib_70_wide hI0 (k := 824) rfl) (by rw [← hG70]; exact ib_70_even hI0 (k := 825) rfl)) edS_sy (zFw_1 po0_r41 (by omega)) (by omega) (by omega) (by omega) hy (by omega) hz | exact spr_1 (zEr_w (fun i hi => ⟨by rw [← hG70]; exact ib_70_m1 hI0 (by omega), by rw [← hG70]; exact ib_70_m2 hI0 (by omega)⟩) (fun k hk => by rw [← hG70]; exact ib_70_shape hI0 (by omega)) (by rw [← hG70]; exact ib_70_wide hI0 (k := 824) rfl) (by rw [← hG70]; exact ib_70_even hI0 (k := 825) rfl)) edS_sy (zFw_1 po0_r41 (by omega)) (by omega) (by omega) (by omega) hy (by omega)⟩
                          · intro h49
                            refine zw_7 zr_186_70 rfl ?_
                            refine zw_46r (s := 80) zr_186_71 rfl rfl rfl rfl ?_
                            refine zw_push zr_186_74 ?_
                            refine zw_3 zr_186_76 rfl ?_
                            refine zw_18 zr_186_77 (by omega) ?_
                            refine zw_3 zr_186_78 rfl ?_
                            refine zw_16 zr_186_79 (by omega) ?_
                            refine zw_48 (c := 80) (len := 100) zr_186_80 rfl rfl (by omega) (by omega) ?_
                            intro x50 ex50
                            have bx50 := ib_80 hIm40 (k := (((10 * a0) + a1)).toNat) (by omega)
                            rw [← ex50] at bx50
                            have qx50 : x50 = f42 (((10 * a0) + a1)).toNat := by rw [← fm40_80]; exact ex50
                            clear ex50
                            have hz := qx50
                            refine zw_38 zr_186_81 (by omega) ?_
                            refine zw_42 zr_186_82 ?_
                            refine zw_R zr_186_96 (by decide) zm_186 (v := (0, (-x50))) rfl ?_
                            rw [← hQ]; exact ⟨_, rfl, by omega, by omega, hIm40, hFm40, by first | exact spn_b rfl (by omega) | exact spn_q (by omega) rfl (zFw_0 po0_r41 (by omega)) | exact spr_n (zEr_w (fun i hi => ⟨by rw [← hG70]; exact ib_70_m1 hI0 (by omega), by rw [← hG70]; exact ib_70_m2 hI0 (by omega)⟩) (fun k hk => by rw [← hG70]; exact ib_70_shape hI0 (by omega)) (by rw [← hG70]; exact ib_70_wide hI0 (k := 824) rfl) (by rw [← hG70]; exact ib_70_even hI0 (k := 825) rfl)) (zFw_1 po0_r41 (by omega)) (by omega) (by omega) rfl hy (by omega) | exact spr_0 (zEr_w (fun i hi => ⟨by rw [← hG70]; exact ib_70_m1 hI0 (by omega), by rw [← hG70]; exact ib_70_m2 hI0 (by omega)⟩) (fun k hk => by rw [← hG70]; exact ib_70_shape hI0 (by omega)) (by rw [← hG70]; exact ib_70_wide hI0 (k := 824) rfl) (by rw [← hG70]; exact ib_70_even hI0 (k := 825) rfl)) edS_sy (zFw_1 po0_r41 (by omega)) (by omega) (by omega) (by omega) hy (by omega) hz | exact spr_1 (zEr_w (fun i hi => ⟨by rw [← hG70]; exact ib_70_m1 hI0 (by omega), by rw [← hG70]; exact ib_70_m2 hI0 (by omega)⟩) (fun k hk => by rw [← hG70]; exact ib_70_shape hI0 (by omega)) (by rw [← hG70]; exact ib_70_wide hI0 (k := 824) rfl) (by rw [← hG70]; exact ib_70_even hI0 (k := 825) rfl)) edS_sy (zFw_1 po0_r41 (by omega)) (by omega) (by omega) (by omega) hy (by omega)⟩
                        · intro h53
                          refine zw_push zr_186_63 ?_
                          refine zw_R zr_186_65 (by decide) zm_186 (v := (0, (-300000))) rfl ?_
                          rw [← hQ]; exact ⟨_, rfl, by omega, by omega, hIm40, hFm40, by first | exact spn_b rfl (by omega) | exact spn_q (by omega) rfl (zFw_0 po0_r41 (by omega)) | exact spr_n (zEr_w (fun i hi => ⟨by rw [← hG70]; exact ib_70_m1 hI0 (by omega), by rw [← hG70]; exact ib_70_m2 hI0 (by omega)⟩) (fun k hk => by rw [← hG70]; exact ib_70_shape hI0 (by omega)) (by rw [← hG70]; exact ib_70_wide hI0 (k := 824) rfl) (by rw [← hG70]; exact ib_70_even hI0 (k := 825) rfl)) (zFw_1 po0_r41 (by omega)) (by omega) (by omega) rfl hy (by omega) | exact spr_0 (zEr_w (fun i hi => ⟨by rw [← hG70]; exact ib_70_m1 hI0 (by omega), by rw [← hG70]; exact ib_70_m2 hI0 (by omega)⟩) (fun k hk => by rw [← hG70]; exact ib_70_shape hI0 (by omega)) (by rw [← hG70]; exact ib_70_wide hI0 (k := 824) rfl) (by rw [← hG70]; exact ib_70_even hI0 (k := 825) rfl)) edS_sy (zFw_1 po0_r41 (by omega)) (by omega) (by omega) (by omega) hy (by omega) hz | exact spr_1 (zEr_w (fun i hi => ⟨by rw [← hG70]; exact ib_70_m1 hI0 (by omega), by rw [← hG70]; exact ib_70_m2 hI0 (by omega)⟩) (fun k hk => by rw [← hG70]; exact ib_70_shape hI0 (by omega)) (by rw [← hG70]; exact ib_70_wide hI0 (k := 824) rfl) (by rw [← hG70]; exact ib_70_even hI0 (k := 825) rfl)) edS_sy (zFw_1 po0_r41 (by omega)) (by omega) (by omega) (by omega) hy (by omega)⟩
                      · intro h55
                        refine zw_push zr_186_44 ?_
                        refine zw_R zr_186_46 (by decide) zm_186 (v := (0, (-200000))) rfl ?_
                        rw [← hQ]; exact ⟨_, rfl, by omega, by omega, hIm40, hFm40, by first | exact spn_b rfl (by omega) | exact spn_q (by omega) rfl (zFw_0 po0_r41 (by omega)) | exact spr_n (zEr_w (fun i hi => ⟨by rw [← hG70]; exact ib_70_m1 hI0 (by omega), by rw [← hG70]; exact ib_70_m2 hI0 (by omega)⟩) (fun k hk => by rw [← hG70]; exact ib_70_shape hI0 (by omega)) (by rw [← hG70]; exact ib_70_wide hI0 (k := 824) rfl) (by rw [← hG70]; exact ib_70_even hI0 (k := 825) rfl)) (zFw_1 po0_r41 (by omega)) (by omega) (by omega) rfl hy (by omega) | exact spr_0 (zEr_w (fun i hi => ⟨by rw [← hG70]; exact ib_70_m1 hI0 (by omega), by rw [← hG70]; exact ib_70_m2 hI0 (by omega)⟩) (fun k hk => by rw [← hG70]; exact ib_70_shape hI0 (by omega)) (by rw [← hG70]; exact ib_70_wide hI0 (k := 824) rfl) (by rw [← hG70]; exact ib_70_even hI0 (k := 825) rfl)) edS_sy (zFw_1 po0_r41 (by omega)) (by omega) (by omega) (by omega) hy (by omega) hz | exact spr_1 (zEr_w (fun i hi => ⟨by rw [← hG70]; exact ib_70_m1 hI0 (by omega), by rw [← hG70]; exact ib_70_m2 hI0 (by omega)⟩) (fun k hk => by rw [← hG70]; exact ib_70_shape hI0 (by omega)) (by rw [← hG70]; exact ib_70_wide hI0 (k := 824) rfl) (by rw [← hG70]; exact ib_70_even hI0 (k := 825) rfl)) edS_sy (zFw_1 po0_r41 (by omega)) (by omega) (by omega) (by omega) hy (by omega)⟩
                    · intro h57; omega

abbrev W_86 : List (Nat × Nat) := [(58, 1000), (59, 1000)]
set_option maxHeartbeats 8000000 in
theorem th_86 {E : zE} {d : Nat} {m0 : zM} {a0 : Int} {g0 : Int} {g1 : Int} {F6 : Nat → Int} {F7 : Nat → Int} (hd : 5 ≤ d) (hI0 : zInv m0) (hg0 : m0 1 0 = g0) (hg1 : m0 1 1 = g1) (hG6 : m0 6 = F6) (hG7 : m0 7 = F7) (ha0 : 0 ≤ a0 ∧ a0 ≤ 1152921504606846975) (hp0 : zPl F6 F7 g1 g0) : zC E d 86 [(2, 55), (1, a0)] m0 (fun v m' => ∃ r : Int, v = (0, r) ∧ 0 ≤ r ∧ r ≤ 4 ∧ zInv m' ∧ zFr W_86 m0 m') := by
  have hF0 : zFr W_86 m0 m0 := zFr.rfl
  have bg0 := ib_1_0 hI0
  rw [hg0] at bg0
  have bg1 := ib_1_1 hI0
  rw [hg1] at bg1
  generalize hQ : (fun (v : zV) (m' : zM) => ∃ r : Int, v = (0, r) ∧ 0 ≤ r ∧ r ≤ 4 ∧ zInv m' ∧ zFr W_86 m0 m') = Q
  show zW E d 86 0 [(2, 55), (1, a0), (9, 0), (9, 0), (9, 0), (9, 0), (9, 0), (9, 0)] [] m0 Q
  refine zw_5 zr_86_0 rfl ?_
  refine zw_13 (L' := [(2, 55), (1, a0), (9, 0), (1, a0), (9, 0), (9, 0), (9, 0), (9, 0)]) zr_86_1 (Nat.le_of_ble_eq_true rfl) rfl ?_
  refine zw_push zr_86_2 ?_
  refine zw_10 (L' := [(2, 55), (1, a0), (9, 0), (1, a0), (9, 0), (0, 0), (9, 0), (9, 0)]) zr_86_3 (Nat.le_of_ble_eq_true rfl) rfl ?_
  have lp5_4 : ∀ (nlp5_4 : Nat) (i1 i2 : Int) (m3 : zM), zInv m3 → zFr W_86 m0 m3 → m3 1 0 = g0 → m3 1 1 = g1 → m3 6 = F6 → m3 7 = F7 → 0 ≤ i1 → i1 ≤ 1152921504606846975 → 0 ≤ i2 → i2 ≤ 4 → (4 - i2).toNat < nlp5_4 → zW E (d) 86 5 [(2, 55), (1, a0), (9, 0), (1, i1), (9, 0), (0, i2), (9, 0), (9, 0)] [] m3 Q := by
    intro nlp5_4
    induction nlp5_4 with
    | zero =>
      intros
      exact absurd (by assumption : _ < 0) (Nat.not_lt_zero _)
    | succ nlp5_4 ihlp5_4 =>
      intro i1 i2 m3 hIm3 hFm3 km3_1_0 km3_1_1 fm3_6 fm3_7 li1 ui1 li2 ui2 hmlp5_4
      refine zw_4 zr_86_5 rfl ?_
      refine zw_push zr_86_7 ?_
      refine zw_41_2 zr_86_8 ?_ ?_
      · intro h6
        refine zw_push zr_86_43 ?_
        refine zw_R zr_86_44 (by decide) zm_86 (v := (0, 4)) rfl ?_
        rw [← hQ]; exact ⟨_, rfl, by omega, by omega, hIm3, hFm3⟩
      · intro h7
        refine zw_7 zr_86_11 rfl ?_
        refine zw_5 zr_86_12 rfl ?_
        refine zw_C zr_86_13 (Or.inl rfl) zm_83 rfl rfl ⟨Nat.le_of_ble_eq_true rfl, Nat.le_of_ble_eq_true rfl, Nat.le_of_ble_eq_true rfl, rfl, by decide⟩ (by omega) (th_83 (d := d - 1) (by omega) hIm3 (a0 := i1) (g0 := g0) (g1 := g1)  (F6 := F6) (F7 := F7) (F56 := m3 56) (F57 := m3 57) (F58 := m3 58) (F59 := m3 59) km3_1_0 km3_1_1 fm3_6 fm3_7 rfl rfl rfl rfl (by omega) (hp0)) ?_
        rintro _ m9 ⟨r10, rfl, hr10a, hr10b, hIm9, gm9, po0_r10⟩
        have hFm9 : zFr W_86 m0 m9 := hFm3.trans gm9 rfl
        have km9_1_0 : m9 1 0 = g0 := (gm9 1 0 rfl).trans km3_1_0
        have km9_1_1 : m9 1 1 = g1 := (gm9 1 1 rfl).trans km3_1_1
        have fm9_6 : m9 6 = F6 := (funext fun k => gm9 6 k rfl).trans fm3_6
        have fm9_7 : m9 7 = F7 := (funext fun k => gm9 7 k rfl).trans fm3_7
        show zW E (d) 86 16 [(2, 55), (1, a0), (9, 0), (1, i1), (9, 0), (0, i2), (9, 0), (9, 0)] [(1, r10)] m9 Q
        refine zw_14 (L' := [(2, 55), (1, a0), (9, 0), (1, i1), (9, 0), (0, i2), (1, r10), (9, 0)]) zr_86_16 (Nat.le_of_ble_eq_true rfl) rfl ?_
        refine zw_6 zr_86_18 rfl ?_
        refine zw_push zr_86_20 ?_
        refine zw_39_4 zr_86_21 zr_86_22 ?_ ?_
        · intro h11
          refine zw_5 zr_86_28 rfl ?_
          refine zw_6 zr_86_29 rfl ?_
          refine zw_push zr_86_31 ?_
          refine zw_32c zr_86_34 (by omega) ?_
          refine zw_30n (y := r10) zr_86_35 (by omega) (by omega) ?_
          intro x12 ex12 hx12a hx12b
          refine zw_13 (L' := [(2, 55), (1, a0), (9, 0), (1, x12), (9, 0), (0, i2), (1, r10), (9, 0)]) zr_86_36 (Nat.le_of_ble_eq_true rfl) rfl ?_
          refine zw_15 (c := 1) (L' := [(2, 55), (1, a0), (9, 0), (1, x12), (9, 0), (0, (i2 + 1)), (1, r10), (9, 0)]) zr_86_37 rfl (by decide) (by omega) rfl ?_
          refine zw_42 zr_86_40 ?_
          exact zw_less (L := [(2, 55), (1, a0), (9, 0), (1, x12), (9, 0), (0, (i2 + 1)), (9, 0), (9, 0)]) ⟨Or.inr rfl, Or.inr rfl, Or.inl rfl, Or.inr rfl, Or.inl rfl, Or.inr rfl, Or.inl rfl, Or.inl rfl, trivial⟩ (ihlp5_4 (x12) ((i2 + 1)) m9 hIm9 hFm9  km9_1_0 km9_1_1 fm9_6 fm9_7 (by omega) (by omega) (by omega) (by omega)  (by omega))
        · intro h13
          refine zw_4 zr_86_25 rfl ?_
          refine zw_R zr_86_27 (by decide) zm_86 (v := (0, i2)) rfl ?_
          rw [← hQ]; exact ⟨_, rfl, by omega, by omega, hIm9, hFm9⟩
  exact lp5_4 _ (a0) (0) m0 hI0 hF0  hg0 hg1 hG6 hG7 (by omega) (by omega) (by omega) (by omega)  (Nat.lt_succ_self _)

abbrev W_87 : List (Nat × Nat) := [(55, 5), (58, 1000), (59, 1000)]
def rs_87 (E : zE) (d : Nat) : Prop := ∀ (m0 : zM) (a0 : Int) (a1 : Int) (a2 : Int) (a3 : Int) (g0 : Int) (g1 : Int) (F6 : Nat → Int) (F7 : Nat → Int), a3.toNat + 6 ≤ d → zInv m0 → (m0 1 0 = g0) → (m0 1 1 = g1) → (m0 6 = F6) → (m0 7 = F7) → (0 ≤ a0 ∧ a0 ≤ 1152921504606846975) → (0 ≤ a1 ∧ a1 ≤ 1152921504606846975) → (0 ≤ a2 ∧ a2 ≤ 1152921504606846975) → (0 ≤ a3 ∧ a3 ≤ 3) → (zPl F6 F7 g1 g0) → zC E d 87 [(2, 55), (1, a0), (1, a1), (1, a2), (0, a3)] m0 (fun v m' => v = (9, 0) ∧ zInv m' ∧ zFr W_87 m0 m')
set_option maxHeartbeats 8000000 in
theorem tr_87 {E : zE} {d : Nat} (ih87 : rs_87 E (d - 1)) : rs_87 E d := by
  intro m0 a0 a1 a2 a3 g0 g1 F6 F7 hd hI0 hg0 hg1 hG6 hG7 ha0 ha1 ha2 ha3 hp0
  have hF0 : zFr W_87 m0 m0 := zFr.rfl
  have bg0 := ib_1_0 hI0
  rw [hg0] at bg0
  have bg1 := ib_1_1 hI0
  rw [hg1] at bg1
  generalize hQ : (fun (v : zV) (m' : zM) => v = (9, 0) ∧ zInv m' ∧ zFr W_87 m0 m') = Q
  show zW E d 87 0 [(2, 55), (1, a0), (9, 0), (1, a1), (9, 0), (1, a2), (9, 0), (0, a3), (9, 0), (9, 0), (9, 0), (9, 0), (9, 0), (9, 0), (9, 0)] [] m0 Q
  refine zw_7 zr_87_0 rfl ?_
  obtain ⟨f1, ef1⟩ : ∃ v, m0 55 5 = v := ⟨_, rfl⟩
  have bf1 := hI0.fl (c := 55) (k := 5) rfl
  rw [ef1] at bf1
  refine zw_46l zr_87_1 ef1 rfl rfl rfl ?_
  refine zw_push zr_87_4 ?_
  refine zw_39_1 zr_87_7 zr_87_8 ?_ ?_
  · intro h2
    refine zw_7 zr_87_21 rfl ?_
    refine zw_5 zr_87_22 rfl ?_
    refine zw_5 zr_87_23 rfl ?_
    refine zw_push zr_87_24 ?_
    refine zw_32c zr_87_27 (by omega) ?_
    refine zw_30n (y := a1) zr_87_28 (by omega) (by omega) ?_
    intro x3 ex3 hx3a hx3b
    refine zw_C zr_87_29 (Or.inl rfl) zm_83 rfl rfl ⟨Nat.le_of_ble_eq_true rfl, Nat.le_of_ble_eq_true rfl, Nat.le_of_ble_eq_true rfl, rfl, by decide⟩ (by omega) (th_83 (d := d - 1) (by omega) hI0 (a0 := x3) (g0 := g0) (g1 := g1)  (F6 := F6) (F7 := F7) (F56 := m0 56) (F57 := m0 57) (F58 := m0 58) (F59 := m0 59) hg0 hg1 hG6 hG7 rfl rfl rfl rfl (by omega) (hp0)) ?_
    rintro _ m5 ⟨r6, rfl, hr6a, hr6b, hIm5, gm5, po0_r6⟩
    have hFm5 : zFr W_87 m0 m5 := hF0.trans gm5 rfl
    have km5_1_0 : m5 1 0 = g0 := (gm5 1 0 rfl).trans hg0
    have km5_1_1 : m5 1 1 = g1 := (gm5 1 1 rfl).trans hg1
    have km5_55_5 : m5 55 5 = f1 := (gm5 55 5 rfl).trans ef1
    have fm5_6 : m5 6 = F6 := (funext fun k => gm5 6 k rfl).trans hG6
    have fm5_7 : m5 7 = F7 := (funext fun k => gm5 7 k rfl).trans hG7
    show zW E (d) 87 32 [(2, 55), (1, a0), (9, 0), (1, a1), (9, 0), (1, a2), (9, 0), (0, a3), (9, 0), (9, 0), (9, 0), (9, 0), (9, 0), (9, 0), (9, 0)] [(1, r6)] m5 Q
    refine zw_14 (L' := [(2, 55), (1, a0), (9, 0), (1, a1), (9, 0), (1, a2), (9, 0), (0, a3), (1, r6), (9, 0), (9, 0), (9, 0), (9, 0), (9, 0), (9, 0)]) zr_87_32 (Nat.le_of_ble_eq_true rfl) rfl ?_
    refine zw_6 zr_87_34 rfl ?_
    refine zw_push zr_87_36 ?_
    refine zw_39_4 zr_87_37 zr_87_38 ?_ ?_
    · intro h7
      refine zw_4 zr_87_47 rfl ?_
      refine zw_40_2 zr_87_49 ?_ ?_
      · intro h8
        refine zw_6 zr_87_53 rfl ?_
        refine zw_14 (L' := [(2, 55), (1, a0), (9, 0), (1, a1), (9, 0), (1, a2), (9, 0), (0, a3), (1, r6), (9, 0), (1, a2), (9, 0), (9, 0), (9, 0), (9, 0)]) zr_87_55 (Nat.le_of_ble_eq_true rfl) rfl ?_
        refine zw_push zr_87_57 ?_
        refine zw_10 (L' := [(2, 55), (1, a0), (9, 0), (1, a1), (9, 0), (1, a2), (9, 0), (0, a3), (1, r6), (9, 0), (1, a2), (9, 0), (0, 0), (9, 0), (9, 0)]) zr_87_58 (Nat.le_of_ble_eq_true rfl) rfl ?_
        have lp60_12 : ∀ (nlp60_12 : Nat) (i9 i10 : Int) (m11 : zM), zInv m11 → zFr W_87 m0 m11 → m11 1 0 = g0 → m11 1 1 = g1 → m11 6 = F6 → m11 7 = F7 → 0 ≤ i9 → i9 ≤ 1152921504606846975 → 0 ≤ i10 → i10 ≤ 60 → (60 - i10).toNat < nlp60_12 → zW E (d) 87 60 [(2, 55), (1, a0), (9, 0), (1, a1), (9, 0), (1, a2), (9, 0), (0, a3), (1, r6), (9, 0), (1, i9), (9, 0), (0, i10), (9, 0), (9, 0)] [] m11 Q := by
          intro nlp60_12
          induction nlp60_12 with
          | zero =>
            intros
            exact absurd (by assumption : _ < 0) (Nat.not_lt_zero _)
          | succ nlp60_12 ihlp60_12 =>
            intro i9 i10 m11 hIm11 hFm11 km11_1_0 km11_1_1 fm11_6 fm11_7 li9 ui9 li10 ui10 hmlp60_12
            refine zw_4 zr_87_60 rfl ?_
            refine zw_7 zr_87_62 rfl ?_
            refine zw_46r (s := 1) zr_87_63 rfl rfl rfl rfl ?_
            refine zw_46i zr_87_66 km11_1_1 rfl rfl rfl ?_
            refine zw_41_3 zr_87_69 ?_ ?_
            · intro h14
              refine zw_R zr_87_123 (by decide) zm_87 (v := (9, 0)) rfl ?_
              rw [← hQ]; exact ⟨rfl, hIm11, hFm11⟩
            · intro h15
              refine zw_push zr_87_72 ?_
              refine zw_4 zr_87_73 rfl ?_
              refine zw_33q zr_87_75 (by omega) ?_
              intro x16 ex16 hx16a hx16b
              refine zw_14 (L' := [(2, 55), (1, a0), (9, 0), (1, a1), (9, 0), (1, a2), (9, 0), (0, a3), (1, r6), (9, 0), (1, i9), (9, 0), (0, i10), (1, x16), (9, 0)]) zr_87_76 (Nat.le_of_ble_eq_true rfl) rfl ?_
              refine zw_6 zr_87_78 rfl ?_
              refine zw_6 zr_87_80 rfl ?_
              refine zw_push zr_87_82 ?_
              refine zw_32c zr_87_85 (by omega) ?_
              refine zw_30n (y := i9) zr_87_86 (by omega) (by omega) ?_
              intro x17 ex17 hx17a hx17b
              refine zw_6 zr_87_87 rfl ?_
              refine zw_30p (s := i10) zr_87_89 ex16 (by omega) (by omega) ?_
              intro x18 hx18a
              refine zw_push zr_87_90 ?_
              refine zw_39_1 zr_87_91 zr_87_92 ?_ ?_
              · intro h19
                refine zw_15 (c := 1) (L' := [(2, 55), (1, a0), (9, 0), (1, a1), (9, 0), (1, a2), (9, 0), (0, a3), (1, r6), (9, 0), (1, i9), (9, 0), (0, (i10 + 1)), (1, x16), (9, 0)]) zr_87_117 rfl (by decide) (by omega) rfl ?_
                refine zw_42 zr_87_120 ?_
                exact zw_less (L := [(2, 55), (1, a0), (9, 0), (1, a1), (9, 0), (1, a2), (9, 0), (0, a3), (1, r6), (9, 0), (1, i9), (9, 0), (0, (i10 + 1)), (9, 0), (9, 0)]) ⟨Or.inr rfl, Or.inr rfl, Or.inl rfl, Or.inr rfl, Or.inl rfl, Or.inr rfl, Or.inl rfl, Or.inr rfl, Or.inr rfl, Or.inl rfl, Or.inr rfl, Or.inl rfl, Or.inr rfl, Or.inl rfl, Or.inl rfl, trivial⟩ (ihlp60_12 (i9) ((i10 + 1)) m11 hIm11 hFm11  km11_1_0 km11_1_1 fm11_6 fm11_7 (by omega) (by omega) (by omega) (by omega)  (by omega))
              · intro h20
                refine zw_7 zr_87_95 rfl ?_
                refine zw_5 zr_87_96 rfl ?_
                refine zw_5 zr_87_97 rfl ?_
                refine zw_6 zr_87_98 rfl ?_
                refine zw_31p (s := i10) zr_87_100 ex16 (by omega) (by omega) ?_
                intro x21 ex21 hx21a hx21b
                refine zw_6 zr_87_101 rfl ?_
                refine zw_4 zr_87_103 rfl ?_
                refine zw_push zr_87_105 ?_
                refine zw_17 zr_87_106 (by omega) ?_
                refine zw_C zr_87_107 (Or.inl rfl) zm_87 rfl rfl ⟨Nat.le_of_ble_eq_true rfl, Nat.le_of_ble_eq_true rfl, Nat.le_of_ble_eq_true rfl, rfl, by decide⟩ (by omega) (ih87 m11 (a0) (x21) (i9) ((a3 - 1)) (g0) (g1) (F6) (F7) (by omega) hIm11 km11_1_0 km11_1_1 fm11_6 fm11_7 (by omega) (by omega) (by omega) (by omega) (hp0)) ?_
                rintro _ m23 ⟨rfl, hIm23, gm23⟩
                have hFm23 : zFr W_87 m0 m23 := hFm11.trans gm23 rfl
                have km23_1_0 : m23 1 0 = g0 := (gm23 1 0 rfl).trans km11_1_0
                have km23_1_1 : m23 1 1 = g1 := (gm23 1 1 rfl).trans km11_1_1
                have fm23_6 : m23 6 = F6 := (funext fun k => gm23 6 k rfl).trans fm11_6
                have fm23_7 : m23 7 = F7 := (funext fun k => gm23 7 k rfl).trans fm11_7
                show zW E (d) 87 110 [(2, 55), (1, a0), (9, 0), (1, a1), (9, 0), (1, a2), (9, 0), (0, a3), (1, r6), (9, 0), (1, i9), (9, 0), (0, i10), (1, x16), (9, 0)] [] m23 Q
                refine zw_6 zr_87_110 rfl ?_
                refine zw_6 zr_87_112 rfl ?_
                refine zw_31p (s := i10) zr_87_114 ex16 (by omega) (by omega) ?_
                intro x24 ex24 hx24a hx24b
                refine zw_14 (L' := [(2, 55), (1, a0), (9, 0), (1, a1), (9, 0), (1, a2), (9, 0), (0, a3), (1, r6), (9, 0), (1, x24), (9, 0), (0, i10), (1, x16), (9, 0)]) zr_87_115 (Nat.le_of_ble_eq_true rfl) rfl ?_
                refine zw_15 (c := 1) (L' := [(2, 55), (1, a0), (9, 0), (1, a1), (9, 0), (1, a2), (9, 0), (0, a3), (1, r6), (9, 0), (1, x24), (9, 0), (0, (i10 + 1)), (1, x16), (9, 0)]) zr_87_117 rfl (by decide) (by omega) rfl ?_
                refine zw_42 zr_87_120 ?_
                exact zw_less (L := [(2, 55), (1, a0), (9, 0), (1, a1), (9, 0), (1, a2), (9, 0), (0, a3), (1, r6), (9, 0), (1, x24), (9, 0), (0, (i10 + 1)), (9, 0), (9, 0)]) ⟨Or.inr rfl, Or.inr rfl, Or.inl rfl, Or.inr rfl, Or.inl rfl, Or.inr rfl, Or.inl rfl, Or.inr rfl, Or.inr rfl, Or.inl rfl, Or.inr rfl, Or.inl rfl, Or.inr rfl, Or.inl rfl, Or.inl rfl, trivial⟩ (ihlp60_12 (x24) ((i10 + 1)) m23 hIm23 hFm23  km23_1_0 km23_1_1 fm23_6 fm23_7 (by omega) (by omega) (by omega) (by omega)  (by omega))
        exact lp60_12 _ (a2) (0) m5 hIm5 hFm5  km5_1_0 km5_1_1 fm5_6 fm5_7 (by omega) (by omega) (by omega) (by omega)  (Nat.lt_succ_self _)
      · intro h25
        refine zw_R zr_87_52 (by decide) zm_87 (v := (9, 0)) rfl ?_
        rw [← hQ]; exact ⟨rfl, hIm5, hFm5⟩
    · intro h26
      refine zw_7 zr_87_41 rfl ?_
      refine zw_5 zr_87_42 rfl ?_
      refine zw_47 (c := 55) zr_87_43 rfl ⟨rfl, by decide, rfl⟩ ?_
      intro m27 em27
      have hIm27 : zInv m27 := by rw [em27]; exact hIm5.anyl (by omega) (by decide) rfl (by decide) (by decide)
      have hFm27 : zFr W_87 m0 m27 := by rw [em27]; exact hFm5.up rfl
      have km27_1_0 : m27 1 0 = g0 := by rw [em27, zUp_ne (by omega)]; exact km5_1_0
      have km27_1_1 : m27 1 1 = g1 := by rw [em27, zUp_ne (by omega)]; exact km5_1_1
      have km27_55_5 : m27 55 5 = a1 := by rw [em27]; exact zUp_eq _ _ _ _
      have fm27_6 : m27 6 = F6 := by rw [em27, zUp_fn (by decide)]; exact fm5_6
      have fm27_7 : m27 7 = F7 := by rw [em27, zUp_fn (by decide)]; exact fm5_7
      clear em27
      refine zw_R zr_87_46 (by decide) zm_87 (v := (9, 0)) rfl ?_
      rw [← hQ]; exact ⟨rfl, hIm27, hFm27⟩
  · intro h28
    refine zw_5 zr_87_11 rfl ?_
    refine zw_7 zr_87_12 rfl ?_
    refine zw_46l zr_87_13 ef1 rfl rfl rfl ?_
    refine zw_39_0 zr_87_16 zr_87_17 ?_ ?_
    · intro h29
      refine zw_7 zr_87_21 rfl ?_
      refine zw_5 zr_87_22 rfl ?_
      refine zw_5 zr_87_23 rfl ?_
      refine zw_push zr_87_24 ?_
      refine zw_32c zr_87_27 (by omega) ?_
      refine zw_30n (y := a1) zr_87_28 (by omega) (by omega) ?_
      intro x30 ex30 hx30a hx30b
      refine zw_C zr_87_29 (Or.inl rfl) zm_83 rfl rfl ⟨Nat.le_of_ble_eq_true rfl, Nat.le_of_ble_eq_true rfl, Nat.le_of_ble_eq_true rfl, rfl, by decide⟩ (by omega) (th_83 (d := d - 1) (by omega) hI0 (a0 := x30) (g0 := g0) (g1 := g1)  (F6 := F6) (F7 := F7) (F56 := m0 56) (F57 := m0 57) (F58 := m0 58) (F59 := m0 59) hg0 hg1 hG6 hG7 rfl rfl rfl rfl (by omega) (hp0)) ?_
      rintro _ m32 ⟨r33, rfl, hr33a, hr33b, hIm32, gm32, po0_r33⟩
      have hFm32 : zFr W_87 m0 m32 := hF0.trans gm32 rfl
      have km32_1_0 : m32 1 0 = g0 := (gm32 1 0 rfl).trans hg0
      have km32_1_1 : m32 1 1 = g1 := (gm32 1 1 rfl).trans hg1
      have km32_55_5 : m32 55 5 = f1 := (gm32 55 5 rfl).trans ef1
      have fm32_6 : m32 6 = F6 := (funext fun k => gm32 6 k rfl).trans hG6
      have fm32_7 : m32 7 = F7 := (funext fun k => gm32 7 k rfl).trans hG7
      show zW E (d) 87 32 [(2, 55), (1, a0), (9, 0), (1, a1), (9, 0), (1, a2), (9, 0), (0, a3), (9, 0), (9, 0), (9, 0), (9, 0), (9, 0), (9, 0), (9, 0)] [(1, r33)] m32 Q
      refine zw_14 (L' := [(2, 55), (1, a0), (9, 0), (1, a1), (9, 0), (1, a2), (9, 0), (0, a3), (1, r33), (9, 0), (9, 0), (9, 0), (9, 0), (9, 0), (9, 0)]) zr_87_32 (Nat.le_of_ble_eq_true rfl) rfl ?_
      refine zw_6 zr_87_34 rfl ?_
      refine zw_push zr_87_36 ?_
      refine zw_39_4 zr_87_37 zr_87_38 ?_ ?_
      · intro h34
        refine zw_4 zr_87_47 rfl ?_
        refine zw_40_2 zr_87_49 ?_ ?_
        · intro h35
          refine zw_6 zr_87_53 rfl ?_
          refine zw_14 (L' := [(2, 55), (1, a0), (9, 0), (1, a1), (9, 0), (1, a2), (9, 0), (0, a3), (1, r33), (9, 0), (1, a2), (9, 0), (9, 0), (9, 0), (9, 0)]) zr_87_55 (Nat.le_of_ble_eq_true rfl) rfl ?_
          refine zw_push zr_87_57 ?_
          refine zw_10 (L' := [(2, 55), (1, a0), (9, 0), (1, a1), (9, 0), (1, a2), (9, 0), (0, a3), (1, r33), (9, 0), (1, a2), (9, 0), (0, 0), (9, 0), (9, 0)]) zr_87_58 (Nat.le_of_ble_eq_true rfl) rfl ?_
          have lp60_39 : ∀ (nlp60_39 : Nat) (i36 i37 : Int) (m38 : zM), zInv m38 → zFr W_87 m0 m38 → m38 1 0 = g0 → m38 1 1 = g1 → m38 6 = F6 → m38 7 = F7 → 0 ≤ i36 → i36 ≤ 1152921504606846975 → 0 ≤ i37 → i37 ≤ 60 → (60 - i37).toNat < nlp60_39 → zW E (d) 87 60 [(2, 55), (1, a0), (9, 0), (1, a1), (9, 0), (1, a2), (9, 0), (0, a3), (1, r33), (9, 0), (1, i36), (9, 0), (0, i37), (9, 0), (9, 0)] [] m38 Q := by
            intro nlp60_39
            induction nlp60_39 with
            | zero =>
              intros
              exact absurd (by assumption : _ < 0) (Nat.not_lt_zero _)
            | succ nlp60_39 ihlp60_39 =>
              intro i36 i37 m38 hIm38 hFm38 km38_1_0 km38_1_1 fm38_6 fm38_7 li36 ui36 li37 ui37 hmlp60_39
              refine zw_4 zr_87_60 rfl ?_
              refine zw_7 zr_87_62 rfl ?_
              refine zw_46r (s := 1) zr_87_63 rfl rfl rfl rfl ?_
              refine zw_46i zr_87_66 km38_1_1 rfl rfl rfl ?_
              refine zw_41_3 zr_87_69 ?_ ?_
              · intro h41
                refine zw_R zr_87_123 (by decide) zm_87 (v := (9, 0)) rfl ?_
                rw [← hQ]; exact ⟨rfl, hIm38, hFm38⟩
              · intro h42
                refine zw_push zr_87_72 ?_
                refine zw_4 zr_87_73 rfl ?_
                refine zw_33q zr_87_75 (by omega) ?_
                intro x43 ex43 hx43a hx43b
                refine zw_14 (L' := [(2, 55), (1, a0), (9, 0), (1, a1), (9, 0), (1, a2), (9, 0), (0, a3), (1, r33), (9, 0), (1, i36), (9, 0), (0, i37), (1, x43), (9, 0)]) zr_87_76 (Nat.le_of_ble_eq_true rfl) rfl ?_
                refine zw_6 zr_87_78 rfl ?_
                refine zw_6 zr_87_80 rfl ?_
                refine zw_push zr_87_82 ?_
                refine zw_32c zr_87_85 (by omega) ?_
                refine zw_30n (y := i36) zr_87_86 (by omega) (by omega) ?_
                intro x44 ex44 hx44a hx44b
                refine zw_6 zr_87_87 rfl ?_
                refine zw_30p (s := i37) zr_87_89 ex43 (by omega) (by omega) ?_
                intro x45 hx45a
                refine zw_push zr_87_90 ?_
                refine zw_39_1 zr_87_91 zr_87_92 ?_ ?_
                · intro h46
                  refine zw_15 (c := 1) (L' := [(2, 55), (1, a0), (9, 0), (1, a1), (9, 0), (1, a2), (9, 0), (0, a3), (1, r33), (9, 0), (1, i36), (9, 0), (0, (i37 + 1)), (1, x43), (9, 0)]) zr_87_117 rfl (by decide) (by omega) rfl ?_
                  refine zw_42 zr_87_120 ?_
                  exact zw_less (L := [(2, 55), (1, a0), (9, 0), (1, a1), (9, 0), (1, a2), (9, 0), (0, a3), (1, r33), (9, 0), (1, i36), (9, 0), (0, (i37 + 1)), (9, 0), (9, 0)]) ⟨Or.inr rfl, Or.inr rfl, Or.inl rfl, Or.inr rfl, Or.inl rfl, Or.inr rfl, Or.inl rfl, Or.inr rfl, Or.inr rfl, Or.inl rfl, Or.inr rfl, Or.inl rfl, Or.inr rfl, Or.inl rfl, Or.inl rfl, trivial⟩ (ihlp60_39 (i36) ((i37 + 1)) m38 hIm38 hFm38  km38_1_0 km38_1_1 fm38_6 fm38_7 (by omega) (by omega) (by omega) (by omega)  (by omega))
                · intro h47
                  refine zw_7 zr_87_95 rfl ?_
                  refine zw_5 zr_87_96 rfl ?_
                  refine zw_5 zr_87_97 rfl ?_
                  refine zw_6 zr_87_98 rfl ?_
                  refine zw_31p (s := i37) zr_87_100 ex43 (by omega) (by omega) ?_
                  intro x48 ex48 hx48a hx48b
                  refine zw_6 zr_87_101 rfl ?_
                  refine zw_4 zr_87_103 rfl ?_
                  refine zw_push zr_87_105 ?_
                  refine zw_17 zr_87_106 (by omega) ?_
                  refine zw_C zr_87_107 (Or.inl rfl) zm_87 rfl rfl ⟨Nat.le_of_ble_eq_true rfl, Nat.le_of_ble_eq_true rfl, Nat.le_of_ble_eq_true rfl, rfl, by decide⟩ (by omega) (ih87 m38 (a0) (x48) (i36) ((a3 - 1)) (g0) (g1) (F6) (F7) (by omega) hIm38 km38_1_0 km38_1_1 fm38_6 fm38_7 (by omega) (by omega) (by omega) (by omega) (hp0)) ?_
                  rintro _ m50 ⟨rfl, hIm50, gm50⟩
                  have hFm50 : zFr W_87 m0 m50 := hFm38.trans gm50 rfl
                  have km50_1_0 : m50 1 0 = g0 := (gm50 1 0 rfl).trans km38_1_0
                  have km50_1_1 : m50 1 1 = g1 := (gm50 1 1 rfl).trans km38_1_1
                  have fm50_6 : m50 6 = F6 := (funext fun k => gm50 6 k rfl).trans fm38_6
                  have fm50_7 : m50 7 = F7 := (funext fun k => gm50 7 k rfl).trans fm38_7
                  show zW E (d) 87 110 [(2, 55), (1, a0), (9, 0), (1, a1), (9, 0), (1, a2), (9, 0), (0, a3), (1, r33), (9, 0), (1, i36), (9, 0), (0, i37), (1, x43), (9, 0)] [] m50 Q
                  refine zw_6 zr_87_110 rfl ?_
                  refine zw_6 zr_87_112 rfl ?_
                  refine zw_31p (s := i37) zr_87_114 ex43 (by omega) (by omega) ?_
                  intro x51 ex51 hx51a hx51b
                  refine zw_14 (L' := [(2, 55), (1, a0), (9, 0), (1, a1), (9, 0), (1, a2), (9, 0), (0, a3), (1, r33), (9, 0), (1, x51), (9, 0), (0, i37), (1, x43), (9, 0)]) zr_87_115 (Nat.le_of_ble_eq_true rfl) rfl ?_
                  refine zw_15 (c := 1) (L' := [(2, 55), (1, a0), (9, 0), (1, a1), (9, 0), (1, a2), (9, 0), (0, a3), (1, r33), (9, 0), (1, x51), (9, 0), (0, (i37 + 1)), (1, x43), (9, 0)]) zr_87_117 rfl (by decide) (by omega) rfl ?_
                  refine zw_42 zr_87_120 ?_
                  exact zw_less (L := [(2, 55), (1, a0), (9, 0), (1, a1), (9, 0), (1, a2), (9, 0), (0, a3), (1, r33), (9, 0), (1, x51), (9, 0), (0, (i37 + 1)), (9, 0), (9, 0)]) ⟨Or.inr rfl, Or.inr rfl, Or.inl rfl, Or.inr rfl, Or.inl rfl, Or.inr rfl, Or.inl rfl, Or.inr rfl, Or.inr rfl, Or.inl rfl, Or.inr rfl, Or.inl rfl, Or.inr rfl, Or.inl rfl, Or.inl rfl, trivial⟩ (ihlp60_39 (x51) ((i37 + 1)) m50 hIm50 hFm50  km50_1_0 km50_1_1 fm50_6 fm50_7 (by omega) (by omega) (by omega) (by omega)  (by omega))
          exact lp60_39 _ (a2) (0) m32 hIm32 hFm32  km32_1_0 km32_1_1 fm32_6 fm32_7 (by omega) (by omega) (by omega) (by omega)  (Nat.lt_succ_self _)
        · intro h52
          refine zw_R zr_87_52 (by decide) zm_87 (v := (9, 0)) rfl ?_
          rw [← hQ]; exact ⟨rfl, hIm32, hFm32⟩
      · intro h53
        refine zw_7 zr_87_41 rfl ?_
        refine zw_5 zr_87_42 rfl ?_
        refine zw_47 (c := 55) zr_87_43 rfl ⟨rfl, by decide, rfl⟩ ?_
        intro m54 em54
        have hIm54 : zInv m54 := by rw [em54]; exact hIm32.anyl (by omega) (by decide) rfl (by decide) (by decide)
        have hFm54 : zFr W_87 m0 m54 := by rw [em54]; exact hFm32.up rfl
        have km54_1_0 : m54 1 0 = g0 := by rw [em54, zUp_ne (by omega)]; exact km32_1_0
        have km54_1_1 : m54 1 1 = g1 := by rw [em54, zUp_ne (by omega)]; exact km32_1_1
        have km54_55_5 : m54 55 5 = a1 := by rw [em54]; exact zUp_eq _ _ _ _
        have fm54_6 : m54 6 = F6 := by rw [em54, zUp_fn (by decide)]; exact fm32_6
        have fm54_7 : m54 7 = F7 := by rw [em54, zUp_fn (by decide)]; exact fm32_7
        clear em54
        refine zw_R zr_87_46 (by decide) zm_87 (v := (9, 0)) rfl ?_
        rw [← hQ]; exact ⟨rfl, hIm54, hFm54⟩
    · intro h55
      refine zw_R zr_87_20 (by decide) zm_87 (v := (9, 0)) rfl ?_
      rw [← hQ]; exact ⟨rfl, hI0, hF0⟩
theorem gr_87 (E : zE) : ∀ d, rs_87 E d := by
  intro d
  induction d with
  | zero => exact (by intro m0 a0 a1 a2 a3 g0 g1 F6 F7 hd; exfalso; omega)
  | succ d ih => exact tr_87 (d := d + 1) ih
theorem th_87 {E : zE} {d : Nat} {m0 : zM} {a0 : Int} {a1 : Int} {a2 : Int} {a3 : Int} {g0 : Int} {g1 : Int} {F6 : Nat → Int} {F7 : Nat → Int} (hd : a3.toNat + 6 ≤ d) (hI0 : zInv m0) (hg0 : m0 1 0 = g0) (hg1 : m0 1 1 = g1) (hG6 : m0 6 = F6) (hG7 : m0 7 = F7) (ha0 : 0 ≤ a0 ∧ a0 ≤ 1152921504606846975) (ha1 : 0 ≤ a1 ∧ a1 ≤ 1152921504606846975) (ha2 : 0 ≤ a2 ∧ a2 ≤ 1152921504606846975) (ha3 : 0 ≤ a3 ∧ a3 ≤ 3) (hp0 : zPl F6 F7 g1 g0) : zC E d 87 [(2, 55), (1, a0), (1, a1), (1, a2), (0, a3)] m0 (fun v m' => v = (9, 0) ∧ zInv m' ∧ zFr W_87 m0 m') := (gr_87 E d) m0 a0 a1 a2 a3 g0 g1 F6 F7 hd hI0 hg0 hg1 hG6 hG7 ha0 ha1 ha2 ha3 hp0

abbrev W_88 : List (Nat × Nat) := [(55, 5), (56, 1000), (57, 1000), (58, 1000), (59, 1000)]
set_option maxHeartbeats 8000000 in
theorem th_88 {E : zE} {d : Nat} {m0 : zM} {g0 : Int} {g1 : Int} {F6 : Nat → Int} {F7 : Nat → Int} (hd : 10 ≤ d) (hI0 : zInv m0) (hg0 : m0 1 0 = g0) (hg1 : m0 1 1 = g1) (hG6 : m0 6 = F6) (hG7 : m0 7 = F7) (hp0 : zPl F6 F7 g1 g0) : zC E d 88 [(2, 55)] m0 (fun v m' => ∃ r : Int, v = (1, r) ∧ (-9223372036854775808) ≤ r ∧ r ≤ 9223372036854775807 ∧ zInv m' ∧ zFr W_88 m0 m') := by
  have hF0 : zFr W_88 m0 m0 := zFr.rfl
  have bg0 := ib_1_0 hI0
  rw [hg0] at bg0
  have bg1 := ib_1_1 hI0
  rw [hg1] at bg1
  generalize hQ : (fun (v : zV) (m' : zM) => ∃ r : Int, v = (1, r) ∧ (-9223372036854775808) ≤ r ∧ r ≤ 9223372036854775807 ∧ zInv m' ∧ zFr W_88 m0 m') = Q
  show zW E d 88 0 [(2, 55), (9, 0), (9, 0), (9, 0)] [] m0 Q
  refine zw_7 zr_88_0 rfl ?_
  obtain ⟨f1, ef1⟩ : ∃ v, m0 1 4 = v := ⟨_, rfl⟩
  have bf1 := ib_1_4 hI0
  rw [ef1] at bf1
  obtain ⟨f2, ef2⟩ : ∃ v, m0 1 5 = v := ⟨_, rfl⟩
  have bf2 := ib_1_5 hI0
  rw [ef2] at bf2
  refine zw_C zr_88_1 (Or.inl rfl) zm_78 rfl rfl ⟨Nat.le_of_ble_eq_true rfl, Nat.le_of_ble_eq_true rfl, Nat.le_of_ble_eq_true rfl, rfl, by decide⟩ (by omega) (th_78 (d := d - 1) (by omega) hI0  (g0 := g1) (g1 := f1) (g2 := f2)  (F2 := m0 2) (F5 := m0 5) (F6 := F6) (F7 := F7) (F8 := m0 8) (F12 := m0 12) (F56 := m0 56) (F57 := m0 57) hg1 ef1 ef2 rfl rfl hG6 hG7 rfl rfl rfl rfl  ) ?_
  rintro _ m3 ⟨rfl, hIm3, gm3, po0_m3⟩
  have hFm3 : zFr W_88 m0 m3 := hF0.trans gm3 rfl
  have km3_1_0 : m3 1 0 = g0 := (gm3 1 0 rfl).trans hg0
  have km3_1_1 : m3 1 1 = g1 := (gm3 1 1 rfl).trans hg1
  have km3_1_4 : m3 1 4 = f1 := (gm3 1 4 rfl).trans ef1
  have km3_1_5 : m3 1 5 = f2 := (gm3 1 5 rfl).trans ef2
  have fm3_6 : m3 6 = F6 := (funext fun k => gm3 6 k rfl).trans hG6
  have fm3_7 : m3 7 = F7 := (funext fun k => gm3 7 k rfl).trans hG7
  show zW E (d) 88 4 [(2, 55), (9, 0), (9, 0), (9, 0)] [] m3 Q
  refine zw_7 zr_88_4 rfl ?_
  refine zw_46r (s := 1) zr_88_5 rfl rfl rfl rfl ?_
  obtain ⟨f4, ef4⟩ : ∃ v, m3 1 2 = v := ⟨_, rfl⟩
  have bf4 := ib_1_2 hIm3
  rw [ef4] at bf4
  obtain ⟨f5, ef5⟩ : ∃ v, m3 1 3 = v := ⟨_, rfl⟩
  have bf5 := ib_1_3 hIm3
  rw [ef5] at bf5
  refine zw_C zr_88_8 (Or.inl rfl) zm_53 rfl rfl ⟨Nat.le_of_ble_eq_true rfl, Nat.le_of_ble_eq_true rfl, Nat.le_of_ble_eq_true rfl, rfl, by decide⟩ (by omega) (th_53 (d := d - 1) (by omega) hIm3  (g0 := g1) (g1 := f4) (g2 := f5)   km3_1_1 ef4 ef5   ) ?_
  rintro _ _ ⟨r6, rfl, hr6a, hr6b, rfl, po0_r6⟩
  show zW E (d) 88 11 [(2, 55), (9, 0), (9, 0), (9, 0)] [(1, r6)] m3 Q
  refine zw_13 (L' := [(2, 55), (1, r6), (9, 0), (9, 0)]) zr_88_11 (Nat.le_of_ble_eq_true rfl) rfl ?_
  refine zw_7 zr_88_12 rfl ?_
  refine zw_5 zr_88_13 rfl ?_
  refine zw_C zr_88_14 (Or.inl rfl) zm_86 rfl rfl ⟨Nat.le_of_ble_eq_true rfl, Nat.le_of_ble_eq_true rfl, Nat.le_of_ble_eq_true rfl, rfl, by decide⟩ (by omega) (th_86 (d := d - 1) (by omega) hIm3 (a0 := r6) (g0 := g0) (g1 := g1)  (F6 := F6) (F7 := F7) km3_1_0 km3_1_1 fm3_6 fm3_7 (by omega) (hp0)) ?_
  rintro _ m8 ⟨r9, rfl, hr9a, hr9b, hIm8, gm8⟩
  have hFm8 : zFr W_88 m0 m8 := hFm3.trans gm8 rfl
  have km8_1_0 : m8 1 0 = g0 := (gm8 1 0 rfl).trans km3_1_0
  have km8_1_1 : m8 1 1 = g1 := (gm8 1 1 rfl).trans km3_1_1
  have km8_1_4 : m8 1 4 = f1 := (gm8 1 4 rfl).trans km3_1_4
  have km8_1_5 : m8 1 5 = f2 := (gm8 1 5 rfl).trans km3_1_5
  have km8_1_2 : m8 1 2 = f4 := (gm8 1 2 rfl).trans ef4
  have km8_1_3 : m8 1 3 = f5 := (gm8 1 3 rfl).trans ef5
  have fm8_6 : m8 6 = F6 := (funext fun k => gm8 6 k rfl).trans fm3_6
  have fm8_7 : m8 7 = F7 := (funext fun k => gm8 7 k rfl).trans fm3_7
  show zW E (d) 88 17 [(2, 55), (1, r6), (9, 0), (9, 0)] [(0, r9)] m8 Q
  refine zw_9 (L' := [(2, 55), (1, r6), (9, 0), (0, r9)]) zr_88_17 (Nat.le_of_ble_eq_true rfl) rfl ?_
  have lp18_12 : ∀ (nlp18_12 : Nat) (i10 : Int) (m11 : zM), zInv m11 → zFr W_88 m0 m11 → m11 1 0 = g0 → m11 1 1 = g1 → m11 1 4 = f1 → m11 1 5 = f2 → m11 1 2 = f4 → m11 1 3 = f5 → m11 6 = F6 → m11 7 = F7 → 0 ≤ i10 → i10 ≤ 4 → (4 - i10).toNat < nlp18_12 → zW E (d) 88 18 [(2, 55), (1, r6), (9, 0), (0, i10)] [] m11 Q := by
    intro nlp18_12
    induction nlp18_12 with
    | zero =>
      intros
      exact absurd (by assumption : _ < 0) (Nat.not_lt_zero _)
    | succ nlp18_12 ihlp18_12 =>
      intro i10 m11 hIm11 hFm11 km11_1_0 km11_1_1 km11_1_4 km11_1_5 km11_1_2 km11_1_3 fm11_6 fm11_7 li10 ui10 hmlp18_12
      refine zw_3 zr_88_18 rfl ?_
      refine zw_push zr_88_19 ?_
      refine zw_41_2 zr_88_20 ?_ ?_
      · intro h14
        refine zw_push zr_88_60 ?_
        refine zw_R zr_88_63 (by decide) zm_88 (v := (1, (-5))) rfl ?_
        rw [← hQ]; exact ⟨_, rfl, by omega, by omega, hIm11, hFm11⟩
      · intro h15
        refine zw_7 zr_88_23 rfl ?_
        refine zw_push zr_88_24 ?_
        refine zw_47 (c := 55) zr_88_27 rfl ⟨rfl, by decide, rfl⟩ ?_
        intro m16 em16
        have hIm16 : zInv m16 := by rw [em16]; exact hIm11.anyl (by omega) (by decide) rfl (by decide) (by decide)
        have hFm16 : zFr W_88 m0 m16 := by rw [em16]; exact hFm11.up rfl
        have km16_1_0 : m16 1 0 = g0 := by rw [em16, zUp_ne (by omega)]; exact km11_1_0
        have km16_1_1 : m16 1 1 = g1 := by rw [em16, zUp_ne (by omega)]; exact km11_1_1
        have km16_1_4 : m16 1 4 = f1 := by rw [em16, zUp_ne (by omega)]; exact km11_1_4
        have km16_1_5 : m16 1 5 = f2 := by rw [em16, zUp_ne (by omega)]; exact km11_1_5
        have km16_1_2 : m16 1 2 = f4 := by rw [em16, zUp_ne (by omega)]; exact km11_1_2
        have km16_1_3 : m16 1 3 = f5 := by rw [em16, zUp_ne (by omega)]; exact km11_1_3
        have km16_55_5 : m16 55 5 = (-1) := by rw [em16]; exact zUp_eq _ _ _ _
        have fm16_6 : m16 6 = F6 := by rw [em16, zUp_fn (by decide)]; exact fm11_6
        have fm16_7 : m16 7 = F7 := by rw [em16, zUp_fn (by decide)]; exact fm11_7
        clear em16
        refine zw_7 zr_88_30 rfl ?_
        refine zw_5 zr_88_31 rfl ?_
        refine zw_push zr_88_32 ?_
        refine zw_push zr_88_33 ?_
        refine zw_3 zr_88_34 rfl ?_
        refine zw_C zr_88_35 (Or.inl rfl) zm_87 rfl rfl ⟨Nat.le_of_ble_eq_true rfl, Nat.le_of_ble_eq_true rfl, Nat.le_of_ble_eq_true rfl, rfl, by decide⟩ (by omega) (th_87 (d := d - 1) (by omega) hIm16 (a0 := r6) (a1 := 0) (a2 := 0) (a3 := i10) (g0 := g0) (g1 := g1)  (F6 := F6) (F7 := F7) km16_1_0 km16_1_1 fm16_6 fm16_7 (by omega) (by omega) (by omega) (by omega) (hp0)) ?_
        rintro _ m18 ⟨rfl, hIm18, gm18⟩
        have hFm18 : zFr W_88 m0 m18 := hFm16.trans gm18 rfl
        have km18_1_0 : m18 1 0 = g0 := (gm18 1 0 rfl).trans km16_1_0
        have km18_1_1 : m18 1 1 = g1 := (gm18 1 1 rfl).trans km16_1_1
        have km18_1_4 : m18 1 4 = f1 := (gm18 1 4 rfl).trans km16_1_4
        have km18_1_5 : m18 1 5 = f2 := (gm18 1 5 rfl).trans km16_1_5
        have km18_1_2 : m18 1 2 = f4 := (gm18 1 2 rfl).trans km16_1_2
        have km18_1_3 : m18 1 3 = f5 := (gm18 1 3 rfl).trans km16_1_3
        have fm18_6 : m18 6 = F6 := (funext fun k => gm18 6 k rfl).trans fm16_6
        have fm18_7 : m18 7 = F7 := (funext fun k => gm18 7 k rfl).trans fm16_7
        show zW E (d) 88 38 [(2, 55), (1, r6), (9, 0), (0, i10)] [] m18 Q
        refine zw_7 zr_88_38 rfl ?_
        obtain ⟨f19, ef19⟩ : ∃ v, m18 55 5 = v := ⟨_, rfl⟩
        have bf19 := hIm18.fl (c := 55) (k := 5) rfl
        rw [ef19] at bf19
        refine zw_46l zr_88_39 ef19 rfl rfl rfl ?_
        refine zw_push zr_88_42 ?_
        refine zw_39_1 zr_88_45 zr_88_46 ?_ ?_
        · intro h20
          refine zw_15 (c := 1) (L' := [(2, 55), (1, r6), (9, 0), (0, (i10 + 1))]) zr_88_54 rfl (by decide) (by omega) rfl ?_
          refine zw_42 zr_88_57 ?_
          exact zw_less (L := [(2, 55), (1, r6), (9, 0), (0, (i10 + 1))]) ⟨Or.inr rfl, Or.inr rfl, Or.inl rfl, Or.inr rfl, trivial⟩ (ihlp18_12 ((i10 + 1)) m18 hIm18 hFm18  km18_1_0 km18_1_1 km18_1_4 km18_1_5 km18_1_2 km18_1_3 fm18_6 fm18_7 (by omega) (by omega)  (by omega))
        · intro h21
          refine zw_7 zr_88_49 rfl ?_
          refine zw_46l zr_88_50 ef19 rfl rfl rfl ?_
          refine zw_R zr_88_53 (by decide) zm_88 (v := (1, f19)) rfl ?_
          rw [← hQ]; exact ⟨_, rfl, by omega, by omega, hIm18, hFm18⟩
  exact lp18_12 _ (r9) m8 hIm8 hFm8  km8_1_0 km8_1_1 km8_1_4 km8_1_5 km8_1_2 km8_1_3 fm8_6 fm8_7 (by omega) (by omega)  (Nat.lt_succ_self _)

abbrev W_119 : List (Nat × Nat) := [(55, 5), (56, 1000), (57, 1000), (58, 1000), (59, 1000)]
set_option maxHeartbeats 8000000 in
theorem th_119 {E : zE} {d : Nat} {m0 : zM} {g0 : Int} {g1 : Int} {F6 : Nat → Int} {F7 : Nat → Int} (hd : 11 ≤ d) (hI0 : zInv m0) (hg0 : m0 1 0 = g0) (hg1 : m0 1 1 = g1) (hG6 : m0 6 = F6) (hG7 : m0 7 = F7) (hp0 : zPl F6 F7 g1 g0) : zC E d 119 [(2, 0)] m0 (fun v m' => ∃ r : Int, v = (1, r) ∧ (-9223372036854775808) ≤ r ∧ r ≤ 9223372036854775807 ∧ zInv m' ∧ zFr W_119 m0 m') := by
  have hF0 : zFr W_119 m0 m0 := zFr.rfl
  have bg0 := ib_1_0 hI0
  rw [hg0] at bg0
  have bg1 := ib_1_1 hI0
  rw [hg1] at bg1
  generalize hQ : (fun (v : zV) (m' : zM) => ∃ r : Int, v = (1, r) ∧ (-9223372036854775808) ≤ r ∧ r ≤ 9223372036854775807 ∧ zInv m' ∧ zFr W_119 m0 m') = Q
  show zW E d 119 0 [(2, 0)] [] m0 Q
  refine zw_7 zr_119_0 rfl ?_
  refine zw_46r (s := 55) zr_119_1 rfl rfl rfl rfl ?_
  refine zw_C zr_119_4 (Or.inl rfl) zm_88 rfl rfl ⟨Nat.le_of_ble_eq_true rfl, Nat.le_of_ble_eq_true rfl, Nat.le_of_ble_eq_true rfl, rfl, by decide⟩ (by omega) (th_88 (d := d - 1) (by omega) hI0  (g0 := g0) (g1 := g1)  (F6 := F6) (F7 := F7) hg0 hg1 hG6 hG7  (hp0)) ?_
  rintro _ m2 ⟨r3, rfl, hr3a, hr3b, hIm2, gm2⟩
  have hFm2 : zFr W_119 m0 m2 := hF0.trans gm2 rfl
  have km2_1_0 : m2 1 0 = g0 := (gm2 1 0 rfl).trans hg0
  have km2_1_1 : m2 1 1 = g1 := (gm2 1 1 rfl).trans hg1
  have fm2_6 : m2 6 = F6 := (funext fun k => gm2 6 k rfl).trans hG6
  have fm2_7 : m2 7 = F7 := (funext fun k => gm2 7 k rfl).trans hG7
  show zW E (d) 119 7 [(2, 0)] [(1, r3)] m2 Q
  refine zw_R zr_119_7 (by decide) zm_119 (v := (1, r3)) rfl ?_
  rw [← hQ]; exact ⟨_, rfl, by omega, by omega, hIm2, hFm2⟩

abbrev W_187 : List (Nat × Nat) := [(80, 1000)]
set_option maxHeartbeats 8000000 in
theorem th_187 {E : zE} {d : Nat} {m0 : zM} {g0 : Int} {F70 : Nat → Int} (hd : 4 ≤ d) (hI0 : zInv m0) (hg0 : m0 70 823 = g0) (hG70 : m0 70 = F70) (hp0 : zNe F70 g0) : zC E d 187 [(2, 69)] m0 (fun v m' => ∃ r : Int, v = (1, r) ∧ (-9223372036854775808) ≤ r ∧ r ≤ 9223372036854775807 ∧ zInv m' ∧ zFr W_187 m0 m') := by
  have hF0 : zFr W_187 m0 m0 := zFr.rfl
  have bg0 : 0 ≤ m0 70 823 ∧ m0 70 823 ≤ 60 := ib_70_meetings hI0 (by omega)
  rw [hg0] at bg0
  generalize hQ : (fun (v : zV) (m' : zM) => ∃ r : Int, v = (1, r) ∧ (-9223372036854775808) ≤ r ∧ r ≤ 9223372036854775807 ∧ zInv m' ∧ zFr W_187 m0 m') = Q
  show zW E d 187 0 [(2, 69), (9, 0), (9, 0), (9, 0)] [] m0 Q
  refine zw_7 zr_187_0 rfl ?_
  refine zw_push zr_187_1 ?_
  refine zw_push zr_187_2 ?_
  refine zw_push zr_187_3 ?_
  refine zw_C zr_187_4 (Or.inl rfl) zm_184 rfl rfl ⟨Nat.le_of_ble_eq_true rfl, Nat.le_of_ble_eq_true rfl, Nat.le_of_ble_eq_true rfl, rfl, by decide⟩ (by omega) (th_184 (d := d - 1) (by omega) hI0 (a0 := (-1)) (a1 := (-1)) (a2 := (-1)) (g0 := g0)  (F70 := F70) (F80 := m0 80) hg0 hG70 rfl (by omega) (by omega) (by omega) (hp0)) ?_
  rintro _ m2 ⟨r3, rfl, hr3a, hr3b, hIm2, gm2, po0_r3⟩
  have hFm2 : zFr W_187 m0 m2 := hF0.trans gm2 rfl
  have km2_70_823 : m2 70 823 = g0 := (gm2 70 823 rfl).trans hg0
  have fm2_70 : m2 70 = F70 := (funext fun k => gm2 70 k rfl).trans hG70
  show zW E (d) 187 7 [(2, 69), (9, 0), (9, 0), (9, 0)] [(0, r3)] m2 Q
  refine zw_40_1 zr_187_7 ?_ ?_
  · intro h4
    refine zw_push zr_187_12 ?_
    refine zw_9 (L' := [(2, 69), (0, 0), (9, 0), (9, 0)]) zr_187_13 (Nat.le_of_ble_eq_true rfl) rfl ?_
    have lp14_7 : ∀ (nlp14_7 : Nat) (i5 : Int) (m6 : zM), zInv m6 → zFr W_187 m0 m6 → m6 70 823 = g0 → m6 70 = F70 → 0 ≤ i5 → i5 ≤ 60 → (60 - i5).toNat < nlp14_7 → zW E (d) 187 14 [(2, 69), (0, i5), (9, 0), (9, 0)] [] m6 Q := by
      intro nlp14_7
      induction nlp14_7 with
      | zero =>
        intros
        exact absurd (by assumption : _ < 0) (Nat.not_lt_zero _)
      | succ nlp14_7 ihlp14_7 =>
        intro i5 m6 hIm6 hFm6 km6_70_823 fm6_70 li5 ui5 hmlp14_7
        refine zw_3 zr_187_14 rfl ?_
        refine zw_7 zr_187_15 rfl ?_
        refine zw_C zr_187_16 (Or.inl rfl) zm_142 rfl rfl ⟨Nat.le_of_ble_eq_true rfl, Nat.le_of_ble_eq_true rfl, Nat.le_of_ble_eq_true rfl, rfl, by decide⟩ (by omega) (P := (fun v m' => zW E (d) 187 19 [(2, 69), (0, i5), (9, 0), (9, 0)] (if v.1 = 9 then [(0, i5)] else v :: [(0, i5)]) m' Q)) ?_ (fun _ _ h => h)
        generalize hQ1 : (fun v m' => zW E (d) 187 19 [(2, 69), (0, i5), (9, 0), (9, 0)] (if v.1 = 9 then [(0, i5)] else v :: [(0, i5)]) m' Q) = Q1
        show zW E (d - 1) 142 0 [(2, 69)] [] m6 Q1
        refine zw_7 zr_142_0 rfl ?_
        refine zw_46r (s := 70) zr_142_1 rfl rfl rfl rfl ?_
        refine zw_push zr_142_4 ?_
        refine zw_48k (c := 70) (len := 826) zr_142_7 rfl rfl (by omega) (by omega) (show (823 : Int).toNat = 823 by omega) km6_70_823 ?_
        refine zw_R zr_142_8 (by decide) zm_142 (v := (0, g0)) rfl ?_
        rw [← hQ1]
        show zW E (d) 187 19 [(2, 69), (0, i5), (9, 0), (9, 0)] [(0, g0), (0, i5)] m6 Q
        refine zw_41_3 zr_187_19 ?_ ?_
        · intro h9
          refine zw_push zr_187_50 ?_
          refine zw_9 (L' := [(2, 69), (0, 0), (9, 0), (9, 0)]) zr_187_51 (Nat.le_of_ble_eq_true rfl) rfl ?_
          have lp52_12 : ∀ (nlp52_12 : Nat) (i10 : Int) (m11 : zM), zInv m11 → zFr W_187 m0 m11 → m11 70 823 = g0 → m11 70 = F70 → 0 ≤ i10 → i10 ≤ 60 → (60 - i10).toNat < nlp52_12 → zW E (d) 187 52 [(2, 69), (0, i10), (9, 0), (9, 0)] [] m11 Q := by
            intro nlp52_12
            induction nlp52_12 with
            | zero =>
              intros
              exact absurd (by assumption : _ < 0) (Nat.not_lt_zero _)
            | succ nlp52_12 ihlp52_12 =>
              intro i10 m11 hIm11 hFm11 km11_70_823 fm11_70 li10 ui10 hmlp52_12
              refine zw_3 zr_187_52 rfl ?_
              refine zw_7 zr_187_53 rfl ?_
              refine zw_C zr_187_54 (Or.inl rfl) zm_142 rfl rfl ⟨Nat.le_of_ble_eq_true rfl, Nat.le_of_ble_eq_true rfl, Nat.le_of_ble_eq_true rfl, rfl, by decide⟩ (by omega) (P := (fun v m' => zW E (d) 187 57 [(2, 69), (0, i10), (9, 0), (9, 0)] (if v.1 = 9 then [(0, i10)] else v :: [(0, i10)]) m' Q)) ?_ (fun _ _ h => h)
              generalize hQ1 : (fun v m' => zW E (d) 187 57 [(2, 69), (0, i10), (9, 0), (9, 0)] (if v.1 = 9 then [(0, i10)] else v :: [(0, i10)]) m' Q) = Q1
              show zW E (d - 1) 142 0 [(2, 69)] [] m11 Q1
              refine zw_7 zr_142_0 rfl ?_
              refine zw_46r (s := 70) zr_142_1 rfl rfl rfl rfl ?_
              refine zw_push zr_142_4 ?_
              refine zw_48k (c := 70) (len := 826) zr_142_7 rfl rfl (by omega) (by omega) (show (823 : Int).toNat = 823 by omega) km11_70_823 ?_
              refine zw_R zr_142_8 (by decide) zm_142 (v := (0, g0)) rfl ?_
              rw [← hQ1]
              show zW E (d) 187 57 [(2, 69), (0, i10), (9, 0), (9, 0)] [(0, g0), (0, i10)] m11 Q
              refine zw_41_3 zr_187_57 ?_ ?_
              · intro h14
                refine zw_push zr_187_113 ?_
                refine zw_9 (L' := [(2, 69), (0, 0), (9, 0), (9, 0)]) zr_187_114 (Nat.le_of_ble_eq_true rfl) rfl ?_
                have lp115_17 : ∀ (nlp115_17 : Nat) (i15 : Int) (m16 : zM), zInv m16 → zFr W_187 m0 m16 → m16 70 823 = g0 → m16 70 = F70 → 0 ≤ i15 → i15 ≤ 60 → (60 - i15).toNat < nlp115_17 → zW E (d) 187 115 [(2, 69), (0, i15), (9, 0), (9, 0)] [] m16 Q := by
                  intro nlp115_17
                  induction nlp115_17 with
                  | zero =>
                    intros
                    exact absurd (by assumption : _ < 0) (Nat.not_lt_zero _)
                  | succ nlp115_17 ihlp115_17 =>
                    intro i15 m16 hIm16 hFm16 km16_70_823 fm16_70 li15 ui15 hmlp115_17
                    refine zw_3 zr_187_115 rfl ?_
                    refine zw_7 zr_187_116 rfl ?_
                    refine zw_C zr_187_117 (Or.inl rfl) zm_142 rfl rfl ⟨Nat.le_of_ble_eq_true rfl, Nat.le_of_ble_eq_true rfl, Nat.le_of_ble_eq_true rfl, rfl, by decide⟩ (by omega) (P := (fun v m' => zW E (d) 187 120 [(2, 69), (0, i15), (9, 0), (9, 0)] (if v.1 = 9 then [(0, i15)] else v :: [(0, i15)]) m' Q)) ?_ (fun _ _ h => h)
                    generalize hQ1 : (fun v m' => zW E (d) 187 120 [(2, 69), (0, i15), (9, 0), (9, 0)] (if v.1 = 9 then [(0, i15)] else v :: [(0, i15)]) m' Q) = Q1
                    show zW E (d - 1) 142 0 [(2, 69)] [] m16 Q1
                    refine zw_7 zr_142_0 rfl ?_
                    refine zw_46r (s := 70) zr_142_1 rfl rfl rfl rfl ?_
                    refine zw_push zr_142_4 ?_
                    refine zw_48k (c := 70) (len := 826) zr_142_7 rfl rfl (by omega) (by omega) (show (823 : Int).toNat = 823 by omega) km16_70_823 ?_
                    refine zw_R zr_142_8 (by decide) zm_142 (v := (0, g0)) rfl ?_
                    rw [← hQ1]
                    show zW E (d) 187 120 [(2, 69), (0, i15), (9, 0), (9, 0)] [(0, g0), (0, i15)] m16 Q
                    refine zw_41_3 zr_187_120 ?_ ?_
                    · intro h19
                      refine zw_push zr_187_201 ?_
                      refine zw_R zr_187_204 (by decide) zm_187 (v := (1, (-5))) rfl ?_
                      rw [← hQ]; exact ⟨_, rfl, by omega, by omega, hIm16, hFm16⟩
                    · intro h20
                      refine zw_push zr_187_123 ?_
                      refine zw_9 (L' := [(2, 69), (0, i15), (0, 0), (9, 0)]) zr_187_124 (Nat.le_of_ble_eq_true rfl) rfl ?_
                      have lp125_23 : ∀ (nlp125_23 : Nat) (i21 : Int) (m22 : zM), zInv m22 → zFr W_187 m0 m22 → m22 70 823 = g0 → m22 70 = F70 → 0 ≤ i21 → i21 ≤ 59 → (59 - i21).toNat < nlp125_23 → zW E (d) 187 125 [(2, 69), (0, i15), (0, i21), (9, 0)] [] m22 Q := by
                        intro nlp125_23
                        induction nlp125_23 with
                        | zero =>
                          intros
                          exact absurd (by assumption : _ < 0) (Nat.not_lt_zero _)
                        | succ nlp125_23 ihlp125_23 =>
                          intro i21 m22 hIm22 hFm22 km22_70_823 fm22_70 li21 ui21 hmlp125_23
                          refine zw_3 zr_187_125 rfl ?_
                          refine zw_3 zr_187_126 rfl ?_
                          refine zw_41_3 zr_187_127 ?_ ?_
                          · intro h25
                            refine zw_15 (c := 1) (L' := [(2, 69), (0, (i15 + 1)), (0, i21), (9, 0)]) zr_187_195 rfl (by decide) (by omega) rfl ?_
                            refine zw_42 zr_187_198 ?_
                            exact zw_less (L := [(2, 69), (0, (i15 + 1)), (9, 0), (9, 0)]) ⟨Or.inr rfl, Or.inr rfl, Or.inl rfl, Or.inl rfl, trivial⟩ (ihlp115_17 ((i15 + 1)) m22 hIm22 hFm22  km22_70_823 fm22_70 (by omega) (by omega)  (by omega))
                          · intro h26
                            refine zw_push zr_187_130 ?_
                            refine zw_9 (L' := [(2, 69), (0, i15), (0, i21), (0, 0)]) zr_187_131 (Nat.le_of_ble_eq_true rfl) rfl ?_
                            have lp132_29 : ∀ (nlp132_29 : Nat) (i27 : Int) (m28 : zM), zInv m28 → zFr W_187 m0 m28 → m28 70 823 = g0 → m28 70 = F70 → 0 ≤ i27 → i27 ≤ 59 → (59 - i27).toNat < nlp132_29 → zW E (d) 187 132 [(2, 69), (0, i15), (0, i21), (0, i27)] [] m28 Q := by
                              intro nlp132_29
                              induction nlp132_29 with
                              | zero =>
                                intros
                                exact absurd (by assumption : _ < 0) (Nat.not_lt_zero _)
                              | succ nlp132_29 ihlp132_29 =>
                                intro i27 m28 hIm28 hFm28 km28_70_823 fm28_70 li27 ui27 hmlp132_29
                                refine zw_3 zr_187_132 rfl ?_
                                refine zw_3 zr_187_133 rfl ?_
                                refine zw_41_3 zr_187_134 ?_ ?_
                                · intro h31
                                  refine zw_15 (c := 1) (L' := [(2, 69), (0, i15), (0, (i21 + 1)), (0, i27)]) zr_187_189 rfl (by decide) (by omega) rfl ?_
                                  refine zw_42 zr_187_192 ?_
                                  exact zw_less (L := [(2, 69), (0, i15), (0, (i21 + 1)), (9, 0)]) ⟨Or.inr rfl, Or.inr rfl, Or.inr rfl, Or.inl rfl, trivial⟩ (ihlp125_23 ((i21 + 1)) m28 hIm28 hFm28  km28_70_823 fm28_70 (by omega) (by omega)  (by omega))
                                · intro h32
                                  refine zw_7 zr_187_137 rfl ?_
                                  refine zw_3 zr_187_138 rfl ?_
                                  refine zw_C zr_187_139 (Or.inl rfl) zm_181 rfl rfl ⟨Nat.le_of_ble_eq_true rfl, Nat.le_of_ble_eq_true rfl, Nat.le_of_ble_eq_true rfl, rfl, by decide⟩ (by omega) (P := (fun v m' => zW E (d) 187 142 [(2, 69), (0, i15), (0, i21), (0, i27)] (if v.1 = 9 then [] else v :: []) m' Q)) ?_ (fun _ _ h => h)
                                  generalize hQ1 : (fun v m' => zW E (d) 187 142 [(2, 69), (0, i15), (0, i21), (0, i27)] (if v.1 = 9 then [] else v :: []) m' Q) = Q1
                                  show zW E (d - 1) 181 0 [(2, 69), (0, i27)] [] m28 Q1
                                  refine zw_7 zr_181_0 rfl ?_
                                  refine zw_3 zr_181_1 rfl ?_
                                  refine zw_push zr_181_2 ?_
                                  refine zw_C zr_181_3 (Or.inl rfl) zm_144 rfl rfl ⟨Nat.le_of_ble_eq_true rfl, Nat.le_of_ble_eq_true rfl, Nat.le_of_ble_eq_true rfl, rfl, by decide⟩ (by omega) (P := (fun v m' => zW E (d - 1) 181 6 [(2, 69), (0, i27)] (if v.1 = 9 then [] else v :: []) m' Q1)) ?_ (fun _ _ h => h)
                                  generalize hQ2 : (fun v m' => zW E (d - 1) 181 6 [(2, 69), (0, i27)] (if v.1 = 9 then [] else v :: []) m' Q1) = Q2
                                  show zW E (d - 1 - 1) 144 0 [(2, 69), (0, i27), (0, 4)] [] m28 Q2
                                  refine zw_7 zr_144_0 rfl ?_
                                  refine zw_46r (s := 70) zr_144_1 rfl rfl rfl rfl ?_
                                  refine zw_push zr_144_4 ?_
                                  refine zw_push zr_144_6 ?_
                                  refine zw_3 zr_144_8 rfl ?_
                                  refine zw_18 zr_144_9 (by omega) ?_
                                  refine zw_16 zr_144_10 (by omega) ?_
                                  refine zw_3 zr_144_11 rfl ?_
                                  refine zw_16 zr_144_12 (by omega) ?_
                                  refine zw_48 (c := 70) (len := 826) zr_144_13 rfl rfl (by omega) (by omega) ?_
                                  intro x33 ex33
                                  have bx33 := ib_70_m4 hIm28 (k := (((90 + (6 * i27)) + 4)).toNat) (by omega)
                                  rw [← ex33] at bx33
                                  clear ex33
                                  refine zw_R zr_144_14 (by decide) zm_144 (v := (0, x33)) rfl ?_
                                  rw [← hQ2]
                                  show zW E (d - 1) 181 6 [(2, 69), (0, i27)] [(0, x33)] m28 Q1
                                  refine zw_40_4 zr_181_6 ?_ ?_
                                  · intro h34
                                    refine zw_push zr_181_22 ?_
                                    refine zw_R zr_181_23 (by decide) zm_181 (v := (0, 0)) (zRetB (by omega)) ?_
                                    rw [← hQ1]
                                    show zW E (d) 187 142 [(2, 69), (0, i15), (0, i21), (0, i27)] [(0, 0)] m28 Q
                                    refine zw_40_1 zr_187_142 ?_ ?_
                                    · intro h35
                                      refine zw_15 (c := 1) (L' := [(2, 69), (0, i15), (0, i21), (0, (i27 + 1))]) zr_187_183 rfl (by decide) (by omega) rfl ?_
                                      refine zw_42 zr_187_186 ?_
                                      exact zw_less (L := [(2, 69), (0, i15), (0, i21), (0, (i27 + 1))]) ⟨Or.inr rfl, Or.inr rfl, Or.inr rfl, Or.inr rfl, trivial⟩ (ihlp132_29 ((i27 + 1)) m28 hIm28 hFm28  km28_70_823 fm28_70 (by omega) (by omega)  (by omega))
                                    · intro h36; omega
                                  · intro h37
                                    refine zw_7 zr_181_9 rfl ?_
                                    refine zw_3 zr_181_10 rfl ?_
                                    refine zw_push zr_181_11 ?_
                                    refine zw_C zr_181_12 (Or.inl rfl) zm_144 rfl rfl ⟨Nat.le_of_ble_eq_true rfl, Nat.le_of_ble_eq_true rfl, Nat.le_of_ble_eq_true rfl, rfl, by decide⟩ (by omega) (P := (fun v m' => zW E (d - 1) 181 15 [(2, 69), (0, i27)] (if v.1 = 9 then [] else v :: []) m' Q1)) ?_ (fun _ _ h => h)
                                    generalize hQ2 : (fun v m' => zW E (d - 1) 181 15 [(2, 69), (0, i27)] (if v.1 = 9 then [] else v :: []) m' Q1) = Q2
                                    show zW E (d - 1 - 1) 144 0 [(2, 69), (0, i27), (0, 5)] [] m28 Q2
                                    refine zw_7 zr_144_0 rfl ?_
                                    refine zw_46r (s := 70) zr_144_1 rfl rfl rfl rfl ?_
                                    refine zw_push zr_144_4 ?_
                                    refine zw_push zr_144_6 ?_
                                    refine zw_3 zr_144_8 rfl ?_
                                    refine zw_18 zr_144_9 (by omega) ?_
                                    refine zw_16 zr_144_10 (by omega) ?_
                                    refine zw_3 zr_144_11 rfl ?_
                                    refine zw_16 zr_144_12 (by omega) ?_
                                    refine zw_48 (c := 70) (len := 826) zr_144_13 rfl rfl (by omega) (by omega) ?_
                                    intro x38 ex38
                                    have bx38 := ib_70_m5 hIm28 (k := (((90 + (6 * i27)) + 5)).toNat) (by omega)
                                    rw [← ex38] at bx38
                                    clear ex38
                                    refine zw_R zr_144_14 (by decide) zm_144 (v := (0, x38)) rfl ?_
                                    rw [← hQ2]
                                    show zW E (d - 1) 181 15 [(2, 69), (0, i27)] [(0, x38)] m28 Q1
                                    refine zw_40_4 zr_181_15 ?_ ?_
                                    · intro h39
                                      refine zw_push zr_181_22 ?_
                                      refine zw_R zr_181_23 (by decide) zm_181 (v := (0, 0)) (zRetB (by omega)) ?_
                                      rw [← hQ1]
                                      show zW E (d) 187 142 [(2, 69), (0, i15), (0, i21), (0, i27)] [(0, 0)] m28 Q
                                      refine zw_40_1 zr_187_142 ?_ ?_
                                      · intro h40
                                        refine zw_15 (c := 1) (L' := [(2, 69), (0, i15), (0, i21), (0, (i27 + 1))]) zr_187_183 rfl (by decide) (by omega) rfl ?_
                                        refine zw_42 zr_187_186 ?_
                                        exact zw_less (L := [(2, 69), (0, i15), (0, i21), (0, (i27 + 1))]) ⟨Or.inr rfl, Or.inr rfl, Or.inr rfl, Or.inr rfl, trivial⟩ (ihlp132_29 ((i27 + 1)) m28 hIm28 hFm28  km28_70_823 fm28_70 (by omega) (by omega)  (by omega))
                                      · intro h41; omega
                                    · intro h42
                                      refine zw_push zr_181_18 ?_
                                      refine zw_42 zr_181_19 ?_
                                      refine zw_R zr_181_23 (by decide) zm_181 (v := (0, 1)) (zRetB (by omega)) ?_
                                      rw [← hQ1]
                                      show zW E (d) 187 142 [(2, 69), (0, i15), (0, i21), (0, i27)] [(0, 1)] m28 Q
                                      refine zw_40_1 zr_187_142 ?_ ?_
                                      · intro h43; omega
                                      · intro h44
                                        refine zw_7 zr_187_145 rfl ?_
                                        refine zw_3 zr_187_146 rfl ?_
                                        refine zw_C zr_187_147 (Or.inl rfl) zm_181 rfl rfl ⟨Nat.le_of_ble_eq_true rfl, Nat.le_of_ble_eq_true rfl, Nat.le_of_ble_eq_true rfl, rfl, by decide⟩ (by omega) (P := (fun v m' => zW E (d) 187 150 [(2, 69), (0, i15), (0, i21), (0, i27)] (if v.1 = 9 then [] else v :: []) m' Q)) ?_ (fun _ _ h => h)
                                        generalize hQ1 : (fun v m' => zW E (d) 187 150 [(2, 69), (0, i15), (0, i21), (0, i27)] (if v.1 = 9 then [] else v :: []) m' Q) = Q1
                                        show zW E (d - 1) 181 0 [(2, 69), (0, i21)] [] m28 Q1
                                        refine zw_7 zr_181_0 rfl ?_
                                        refine zw_3 zr_181_1 rfl ?_
                                        refine zw_push zr_181_2 ?_
                                        refine zw_C zr_181_3 (Or.inl rfl) zm_144 rfl rfl ⟨Nat.le_of_ble_eq_true rfl, Nat.le_of_ble_eq_true rfl, Nat.le_of_ble_eq_true rfl, rfl, by decide⟩ (by omega) (P := (fun v m' => zW E (d - 1) 181 6 [(2, 69), (0, i21)] (if v.1 = 9 then [] else v :: []) m' Q1)) ?_ (fun _ _ h => h)
                                        generalize hQ2 : (fun v m' => zW E (d - 1) 181 6 [(2, 69), (0, i21)] (if v.1 = 9 then [] else v :: []) m' Q1) = Q2
                                        show zW E (d - 1 - 1) 144 0 [(2, 69), (0, i21), (0, 4)] [] m28 Q2
                                        refine zw_7 zr_144_0 rfl ?_
                                        refine zw_46r (s := 70) zr_144_1 rfl rfl rfl rfl ?_
                                        refine zw_push zr_144_4 ?_
                                        refine zw_push zr_144_6 ?_
                                        refine zw_3 zr_144_8 rfl ?_
                                        refine zw_18 zr_144_9 (by omega) ?_
                                        refine zw_16 zr_144_10 (by omega) ?_
                                        refine zw_3 zr_144_11 rfl ?_
                                        refine zw_16 zr_144_12 (by omega) ?_
                                        refine zw_48 (c := 70) (len := 826) zr_144_13 rfl rfl (by omega) (by omega) ?_
                                        intro x45 ex45
                                        have bx45 := ib_70_m4 hIm28 (k := (((90 + (6 * i21)) + 4)).toNat) (by omega)
                                        rw [← ex45] at bx45
                                        clear ex45
                                        refine zw_R zr_144_14 (by decide) zm_144 (v := (0, x45)) rfl ?_
                                        rw [← hQ2]
                                        show zW E (d - 1) 181 6 [(2, 69), (0, i21)] [(0, x45)] m28 Q1
                                        refine zw_40_4 zr_181_6 ?_ ?_
                                        · intro h46
                                          refine zw_push zr_181_22 ?_
                                          refine zw_R zr_181_23 (by decide) zm_181 (v := (0, 0)) (zRetB (by omega)) ?_
                                          rw [← hQ1]
                                          show zW E (d) 187 150 [(2, 69), (0, i15), (0, i21), (0, i27)] [(0, 0)] m28 Q
                                          refine zw_40_1 zr_187_150 ?_ ?_
                                          · intro h47
                                            refine zw_15 (c := 1) (L' := [(2, 69), (0, i15), (0, i21), (0, (i27 + 1))]) zr_187_183 rfl (by decide) (by omega) rfl ?_
                                            refine zw_42 zr_187_186 ?_
                                            exact zw_less (L := [(2, 69), (0, i15), (0, i21), (0, (i27 + 1))]) ⟨Or.inr rfl, Or.inr rfl, Or.inr rfl, Or.inr rfl, trivial⟩ (ihlp132_29 ((i27 + 1)) m28 hIm28 hFm28  km28_70_823 fm28_70 (by omega) (by omega)  (by omega))
                                          · intro h48; omega
                                        · intro h49
                                          refine zw_7 zr_181_9 rfl ?_
                                          refine zw_3 zr_181_10 rfl ?_
                                          refine zw_push zr_181_11 ?_
                                          refine zw_C zr_181_12 (Or.inl rfl) zm_144 rfl rfl ⟨Nat.le_of_ble_eq_true rfl, Nat.le_of_ble_eq_true rfl, Nat.le_of_ble_eq_true rfl, rfl, by decide⟩ (by omega) (P := (fun v m' => zW E (d - 1) 181 15 [(2, 69), (0, i21)] (if v.1 = 9 then [] else v :: []) m' Q1)) ?_ (fun _ _ h => h)
                                          generalize hQ2 : (fun v m' => zW E (d - 1) 181 15 [(2, 69), (0, i21)] (if v.1 = 9 then [] else v :: []) m' Q1) = Q2
                                          show zW E (d - 1 - 1) 144 0 [(2, 69), (0, i21), (0, 5)] [] m28 Q2
                                          refine zw_7 zr_144_0 rfl ?_
                                          refine zw_46r (s := 70) zr_144_1 rfl rfl rfl rfl ?_
                                          refine zw_push zr_144_4 ?_
                                          refine zw_push zr_144_6 ?_
                                          refine zw_3 zr_144_8 rfl ?_
                                          refine zw_18 zr_144_9 (by omega) ?_
                                          refine zw_16 zr_144_10 (by omega) ?_
                                          refine zw_3 zr_144_11 rfl ?_
                                          refine zw_16 zr_144_12 (by omega) ?_
                                          refine zw_48 (c := 70) (len := 826) zr_144_13 rfl rfl (by omega) (by omega) ?_
                                          intro x50 ex50
                                          have bx50 := ib_70_m5 hIm28 (k := (((90 + (6 * i21)) + 5)).toNat) (by omega)
                                          rw [← ex50] at bx50
                                          clear ex50
                                          refine zw_R zr_144_14 (by decide) zm_144 (v := (0, x50)) rfl ?_
                                          rw [← hQ2]
                                          show zW E (d - 1) 181 15 [(2, 69), (0, i21)] [(0, x50)] m28 Q1
                                          refine zw_40_4 zr_181_15 ?_ ?_
                                          · intro h51
                                            refine zw_push zr_181_22 ?_
                                            refine zw_R zr_181_23 (by decide) zm_181 (v := (0, 0)) (zRetB (by omega)) ?_
                                            rw [← hQ1]
                                            show zW E (d) 187 150 [(2, 69), (0, i15), (0, i21), (0, i27)] [(0, 0)] m28 Q
                                            refine zw_40_1 zr_187_150 ?_ ?_
                                            · intro h52
                                              refine zw_15 (c := 1) (L' := [(2, 69), (0, i15), (0, i21), (0, (i27 + 1))]) zr_187_183 rfl (by decide) (by omega) rfl ?_
                                              refine zw_42 zr_187_186 ?_
                                              exact zw_less (L := [(2, 69), (0, i15), (0, i21), (0, (i27 + 1))]) ⟨Or.inr rfl, Or.inr rfl, Or.inr rfl, Or.inr rfl, trivial⟩ (ihlp132_29 ((i27 + 1)) m28 hIm28 hFm28  km28_70_823 fm28_70 (by omega) (by omega)  (by omega))
                                            · intro h53; omega
                                          · intro h54
                                            refine zw_push zr_181_18 ?_
                                            refine zw_42 zr_181_19 ?_
                                            refine zw_R zr_181_23 (by decide) zm_181 (v := (0, 1)) (zRetB (by omega)) ?_
                                            rw [← hQ1]
                                            show zW E (d) 187 150 [(2, 69), (0, i15), (0, i21), (0, i27)] [(0, 1)] m28 Q
                                            refine zw_40_1 zr_187_150 ?_ ?_
                                            · intro h55; omega
                                            · intro h56
                                              refine zw_7 zr_187_153 rfl ?_
                                              refine zw_3 zr_187_154 rfl ?_
                                              refine zw_C zr_187_155 (Or.inl rfl) zm_181 rfl rfl ⟨Nat.le_of_ble_eq_true rfl, Nat.le_of_ble_eq_true rfl, Nat.le_of_ble_eq_true rfl, rfl, by decide⟩ (by omega) (P := (fun v m' => zW E (d) 187 158 [(2, 69), (0, i15), (0, i21), (0, i27)] (if v.1 = 9 then [] else v :: []) m' Q)) ?_ (fun _ _ h => h)
                                              generalize hQ1 : (fun v m' => zW E (d) 187 158 [(2, 69), (0, i15), (0, i21), (0, i27)] (if v.1 = 9 then [] else v :: []) m' Q) = Q1
                                              show zW E (d - 1) 181 0 [(2, 69), (0, i15)] [] m28 Q1
                                              refine zw_7 zr_181_0 rfl ?_
                                              refine zw_3 zr_181_1 rfl ?_
                                              refine zw_push zr_181_2 ?_
                                              refine zw_C zr_181_3 (Or.inl rfl) zm_144 rfl rfl ⟨Nat.le_of_ble_eq_true rfl, Nat.le_of_ble_eq_true rfl, Nat.le_of_ble_eq_true rfl, rfl, by decide⟩ (by omega) (P := (fun v m' => zW E (d - 1) 181 6 [(2, 69), (0, i15)] (if v.1 = 9 then [] else v :: []) m' Q1)) ?_ (fun _ _ h => h)
                                              generalize hQ2 : (fun v m' => zW E (d - 1) 181 6 [(2, 69), (0, i15)] (if v.1 = 9 then [] else v :: []) m' Q1) = Q2
                                              show zW E (d - 1 - 1) 144 0 [(2, 69), (0, i15), (0, 4)] [] m28 Q2
                                              refine zw_7 zr_144_0 rfl ?_
                                              refine zw_46r (s := 70) zr_144_1 rfl rfl rfl rfl ?_
                                              refine zw_push zr_144_4 ?_
                                              refine zw_push zr_144_6 ?_
                                              refine zw_3 zr_144_8 rfl ?_
                                              refine zw_18 zr_144_9 (by omega) ?_
                                              refine zw_16 zr_144_10 (by omega) ?_
                                              refine zw_3 zr_144_11 rfl ?_
                                              refine zw_16 zr_144_12 (by omega) ?_
                                              refine zw_48 (c := 70) (len := 826) zr_144_13 rfl rfl (by omega) (by omega) ?_
                                              intro x57 ex57
                                              have bx57 := ib_70_m4 hIm28 (k := (((90 + (6 * i15)) + 4)).toNat) (by omega)
                                              rw [← ex57] at bx57
                                              clear ex57
                                              refine zw_R zr_144_14 (by decide) zm_144 (v := (0, x57)) rfl ?_
                                              rw [← hQ2]
                                              show zW E (d - 1) 181 6 [(2, 69), (0, i15)] [(0, x57)] m28 Q1
                                              refine zw_40_4 zr_181_6 ?_ ?_
                                              · intro h58
                                                refine zw_push zr_181_22 ?_
                                                refine zw_R zr_181_23 (by decide) zm_181 (v := (0, 0)) (zRetB (by omega)) ?_
                                                rw [← hQ1]
                                                show zW E (d) 187 158 [(2, 69), (0, i15), (0, i21), (0, i27)] [(0, 0)] m28 Q
                                                refine zw_40_1 zr_187_158 ?_ ?_
                                                · intro h59
                                                  refine zw_15 (c := 1) (L' := [(2, 69), (0, i15), (0, i21), (0, (i27 + 1))]) zr_187_183 rfl (by decide) (by omega) rfl ?_
                                                  refine zw_42 zr_187_186 ?_
                                                  exact zw_less (L := [(2, 69), (0, i15), (0, i21), (0, (i27 + 1))]) ⟨Or.inr rfl, Or.inr rfl, Or.inr rfl, Or.inr rfl, trivial⟩ (ihlp132_29 ((i27 + 1)) m28 hIm28 hFm28  km28_70_823 fm28_70 (by omega) (by omega)  (by omega))
                                                · intro h60; omega
                                              · intro h61
                                                refine zw_7 zr_181_9 rfl ?_
                                                refine zw_3 zr_181_10 rfl ?_
                                                refine zw_push zr_181_11 ?_
                                                refine zw_C zr_181_12 (Or.inl rfl) zm_144 rfl rfl ⟨Nat.le_of_ble_eq_true rfl, Nat.le_of_ble_eq_true rfl, Nat.le_of_ble_eq_true rfl, rfl, by decide⟩ (by omega) (P := (fun v m' => zW E (d - 1) 181 15 [(2, 69), (0, i15)] (if v.1 = 9 then [] else v :: []) m' Q1)) ?_ (fun _ _ h => h)
                                                generalize hQ2 : (fun v m' => zW E (d - 1) 181 15 [(2, 69), (0, i15)] (if v.1 = 9 then [] else v :: []) m' Q1) = Q2
                                                show zW E (d - 1 - 1) 144 0 [(2, 69), (0, i15), (0, 5)] [] m28 Q2
                                                refine zw_7 zr_144_0 rfl ?_
                                                refine zw_46r (s := 70) zr_144_1 rfl rfl rfl rfl ?_
                                                refine zw_push zr_144_4 ?_
                                                refine zw_push zr_144_6 ?_
                                                refine zw_3 zr_144_8 rfl ?_
                                                refine zw_18 zr_144_9 (by omega) ?_
                                                refine zw_16 zr_144_10 (by omega) ?_
                                                refine zw_3 zr_144_11 rfl ?_
                                                refine zw_16 zr_144_12 (by omega) ?_
                                                refine zw_48 (c := 70) (len := 826) zr_144_13 rfl rfl (by omega) (by omega) ?_
                                                intro x62 ex62
                                                have bx62 := ib_70_m5 hIm28 (k := (((90 + (6 * i15)) + 5)).toNat) (by omega)
                                                rw [← ex62] at bx62
                                                clear ex62
                                                refine zw_R zr_144_14 (by decide) zm_144 (v := (0, x62)) rfl ?_
                                                rw [← hQ2]
                                                show zW E (d - 1) 181 15 [(2, 69), (0, i15)] [(0, x62)] m28 Q1
                                                refine zw_40_4 zr_181_15 ?_ ?_
                                                · intro h63
                                                  refine zw_push zr_181_22 ?_
                                                  refine zw_R zr_181_23 (by decide) zm_181 (v := (0, 0)) (zRetB (by omega)) ?_
                                                  rw [← hQ1]
                                                  show zW E (d) 187 158 [(2, 69), (0, i15), (0, i21), (0, i27)] [(0, 0)] m28 Q
                                                  refine zw_40_1 zr_187_158 ?_ ?_
                                                  · intro h64
                                                    refine zw_15 (c := 1) (L' := [(2, 69), (0, i15), (0, i21), (0, (i27 + 1))]) zr_187_183 rfl (by decide) (by omega) rfl ?_
                                                    refine zw_42 zr_187_186 ?_
                                                    exact zw_less (L := [(2, 69), (0, i15), (0, i21), (0, (i27 + 1))]) ⟨Or.inr rfl, Or.inr rfl, Or.inr rfl, Or.inr rfl, trivial⟩ (ihlp132_29 ((i27 + 1)) m28 hIm28 hFm28  km28_70_823 fm28_70 (by omega) (by omega)  (by omega))
                                                  · intro h65; omega
                                                · intro h66
                                                  refine zw_push zr_181_18 ?_
                                                  refine zw_42 zr_181_19 ?_
                                                  refine zw_R zr_181_23 (by decide) zm_181 (v := (0, 1)) (zRetB (by omega)) ?_
                                                  rw [← hQ1]
                                                  show zW E (d) 187 158 [(2, 69), (0, i15), (0, i21), (0, i27)] [(0, 1)] m28 Q
                                                  refine zw_40_1 zr_187_158 ?_ ?_
                                                  · intro h67; omega
                                                  · intro h68
                                                    refine zw_7 zr_187_161 rfl ?_
                                                    refine zw_3 zr_187_162 rfl ?_
                                                    refine zw_3 zr_187_163 rfl ?_
                                                    refine zw_3 zr_187_164 rfl ?_
                                                    refine zw_C zr_187_165 (Or.inl rfl) zm_184 rfl rfl ⟨Nat.le_of_ble_eq_true rfl, Nat.le_of_ble_eq_true rfl, Nat.le_of_ble_eq_true rfl, rfl, by decide⟩ (by omega) (th_184 (d := d - 1) (by omega) hIm28 (a0 := i27) (a1 := i21) (a2 := i15) (g0 := g0)  (F70 := F70) (F80 := m28 80) km28_70_823 fm28_70 rfl (by omega) (by omega) (by omega) (hp0)) ?_
                                                    rintro _ m70 ⟨r71, rfl, hr71a, hr71b, hIm70, gm70, po0_r71⟩
                                                    have hFm70 : zFr W_187 m0 m70 := hFm28.trans gm70 rfl
                                                    have km70_70_823 : m70 70 823 = g0 := (gm70 70 823 rfl).trans km28_70_823
                                                    have fm70_70 : m70 70 = F70 := (funext fun k => gm70 70 k rfl).trans fm28_70
                                                    show zW E (d) 187 168 [(2, 69), (0, i15), (0, i21), (0, i27)] [(0, r71)] m70 Q
                                                    refine zw_40_1 zr_187_168 ?_ ?_
                                                    · intro h72
                                                      refine zw_15 (c := 1) (L' := [(2, 69), (0, i15), (0, i21), (0, (i27 + 1))]) zr_187_183 rfl (by decide) (by omega) rfl ?_
                                                      refine zw_42 zr_187_186 ?_
                                                      exact zw_less (L := [(2, 69), (0, i15), (0, i21), (0, (i27 + 1))]) ⟨Or.inr rfl, Or.inr rfl, Or.inr rfl, Or.inr rfl, trivial⟩ (ihlp132_29 ((i27 + 1)) m70 hIm70 hFm70  km70_70_823 fm70_70 (by omega) (by omega)  (by omega))
                                                    · intro h73
                                                      refine zw_push zr_187_171 ?_
                                                      refine zw_3 zr_187_172 rfl ?_
                                                      refine zw_33p zr_187_173 (by omega) ?_
                                                      intro x74 ex74 hx74a hx74b
                                                      refine zw_push zr_187_174 ?_
                                                      refine zw_3 zr_187_175 rfl ?_
                                                      refine zw_33p zr_187_176 (by omega) ?_
                                                      intro x75 ex75 hx75a hx75b
                                                      refine zw_31h zr_187_177 ?_
                                                      intro x76 hx76a hx76b
                                                      refine zw_push zr_187_178 ?_
                                                      refine zw_3 zr_187_179 rfl ?_
                                                      refine zw_33p zr_187_180 (by omega) ?_
                                                      intro x77 ex77 hx77a hx77b
                                                      refine zw_31h zr_187_181 ?_
                                                      intro x78 hx78a hx78b
                                                      refine zw_R zr_187_182 (by decide) zm_187 (v := (1, x78)) rfl ?_
                                                      rw [← hQ]; exact ⟨_, rfl, by omega, by omega, hIm70, hFm70⟩
                            exact lp132_29 _ (0) m22 hIm22 hFm22  km22_70_823 fm22_70 (by omega) (by omega)  (Nat.lt_succ_self _)
                      exact lp125_23 _ (0) m16 hIm16 hFm16  km16_70_823 fm16_70 (by omega) (by omega)  (Nat.lt_succ_self _)
                exact lp115_17 _ (0) m11 hIm11 hFm11  km11_70_823 fm11_70 (by omega) (by omega)  (Nat.lt_succ_self _)
              · intro h79
                refine zw_push zr_187_60 ?_
                refine zw_9 (L' := [(2, 69), (0, i10), (0, 0), (9, 0)]) zr_187_61 (Nat.le_of_ble_eq_true rfl) rfl ?_
                have lp62_82 : ∀ (nlp62_82 : Nat) (i80 : Int) (m81 : zM), zInv m81 → zFr W_187 m0 m81 → m81 70 823 = g0 → m81 70 = F70 → 0 ≤ i80 → i80 ≤ 59 → (59 - i80).toNat < nlp62_82 → zW E (d) 187 62 [(2, 69), (0, i10), (0, i80), (9, 0)] [] m81 Q := by
                  intro nlp62_82
                  induction nlp62_82 with
                  | zero =>
                    intros
                    exact absurd (by assumption : _ < 0) (Nat.not_lt_zero _)
                  | succ nlp62_82 ihlp62_82 =>
                    intro i80 m81 hIm81 hFm81 km81_70_823 fm81_70 li80 ui80 hmlp62_82
                    refine zw_3 zr_187_62 rfl ?_
                    refine zw_3 zr_187_63 rfl ?_
                    refine zw_41_3 zr_187_64 ?_ ?_
                    · intro h84
                      refine zw_15 (c := 1) (L' := [(2, 69), (0, (i10 + 1)), (0, i80), (9, 0)]) zr_187_107 rfl (by decide) (by omega) rfl ?_
                      refine zw_42 zr_187_110 ?_
                      exact zw_less (L := [(2, 69), (0, (i10 + 1)), (9, 0), (9, 0)]) ⟨Or.inr rfl, Or.inr rfl, Or.inl rfl, Or.inl rfl, trivial⟩ (ihlp52_12 ((i10 + 1)) m81 hIm81 hFm81  km81_70_823 fm81_70 (by omega) (by omega)  (by omega))
                    · intro h85
                      refine zw_7 zr_187_67 rfl ?_
                      refine zw_3 zr_187_68 rfl ?_
                      refine zw_C zr_187_69 (Or.inl rfl) zm_181 rfl rfl ⟨Nat.le_of_ble_eq_true rfl, Nat.le_of_ble_eq_true rfl, Nat.le_of_ble_eq_true rfl, rfl, by decide⟩ (by omega) (P := (fun v m' => zW E (d) 187 72 [(2, 69), (0, i10), (0, i80), (9, 0)] (if v.1 = 9 then [] else v :: []) m' Q)) ?_ (fun _ _ h => h)
                      generalize hQ1 : (fun v m' => zW E (d) 187 72 [(2, 69), (0, i10), (0, i80), (9, 0)] (if v.1 = 9 then [] else v :: []) m' Q) = Q1
                      show zW E (d - 1) 181 0 [(2, 69), (0, i80)] [] m81 Q1
                      refine zw_7 zr_181_0 rfl ?_
                      refine zw_3 zr_181_1 rfl ?_
                      refine zw_push zr_181_2 ?_
                      refine zw_C zr_181_3 (Or.inl rfl) zm_144 rfl rfl ⟨Nat.le_of_ble_eq_true rfl, Nat.le_of_ble_eq_true rfl, Nat.le_of_ble_eq_true rfl, rfl, by decide⟩ (by omega) (P := (fun v m' => zW E (d - 1) 181 6 [(2, 69), (0, i80)] (if v.1 = 9 then [] else v :: []) m' Q1)) ?_ (fun _ _ h => h)
                      generalize hQ2 : (fun v m' => zW E (d - 1) 181 6 [(2, 69), (0, i80)] (if v.1 = 9 then [] else v :: []) m' Q1) = Q2
                      show zW E (d - 1 - 1) 144 0 [(2, 69), (0, i80), (0, 4)] [] m81 Q2
                      refine zw_7 zr_144_0 rfl ?_
                      refine zw_46r (s := 70) zr_144_1 rfl rfl rfl rfl ?_
                      refine zw_push zr_144_4 ?_
                      refine zw_push zr_144_6 ?_
                      refine zw_3 zr_144_8 rfl ?_
                      refine zw_18 zr_144_9 (by omega) ?_
                      refine zw_16 zr_144_10 (by omega) ?_
                      refine zw_3 zr_144_11 rfl ?_
                      refine zw_16 zr_144_12 (by omega) ?_
                      refine zw_48 (c := 70) (len := 826) zr_144_13 rfl rfl (by omega) (by omega) ?_
                      intro x86 ex86
                      have bx86 := ib_70_m4 hIm81 (k := (((90 + (6 * i80)) + 4)).toNat) (by omega)
                      rw [← ex86] at bx86
                      clear ex86
                      refine zw_R zr_144_14 (by decide) zm_144 (v := (0, x86)) rfl ?_
                      rw [← hQ2]
                      show zW E (d - 1) 181 6 [(2, 69), (0, i80)] [(0, x86)] m81 Q1
                      refine zw_40_4 zr_181_6 ?_ ?_
                      · intro h87
                        refine zw_push zr_181_22 ?_
                        refine zw_R zr_181_23 (by decide) zm_181 (v := (0, 0)) (zRetB (by omega)) ?_
                        rw [← hQ1]
                        show zW E (d) 187 72 [(2, 69), (0, i10), (0, i80), (9, 0)] [(0, 0)] m81 Q
                        refine zw_40_1 zr_187_72 ?_ ?_
                        · intro h88
                          refine zw_15 (c := 1) (L' := [(2, 69), (0, i10), (0, (i80 + 1)), (9, 0)]) zr_187_101 rfl (by decide) (by omega) rfl ?_
                          refine zw_42 zr_187_104 ?_
                          exact zw_less (L := [(2, 69), (0, i10), (0, (i80 + 1)), (9, 0)]) ⟨Or.inr rfl, Or.inr rfl, Or.inr rfl, Or.inl rfl, trivial⟩ (ihlp62_82 ((i80 + 1)) m81 hIm81 hFm81  km81_70_823 fm81_70 (by omega) (by omega)  (by omega))
                        · intro h89; omega
                      · intro h90
                        refine zw_7 zr_181_9 rfl ?_
                        refine zw_3 zr_181_10 rfl ?_
                        refine zw_push zr_181_11 ?_
                        refine zw_C zr_181_12 (Or.inl rfl) zm_144 rfl rfl ⟨Nat.le_of_ble_eq_true rfl, Nat.le_of_ble_eq_true rfl, Nat.le_of_ble_eq_true rfl, rfl, by decide⟩ (by omega) (P := (fun v m' => zW E (d - 1) 181 15 [(2, 69), (0, i80)] (if v.1 = 9 then [] else v :: []) m' Q1)) ?_ (fun _ _ h => h)
                        generalize hQ2 : (fun v m' => zW E (d - 1) 181 15 [(2, 69), (0, i80)] (if v.1 = 9 then [] else v :: []) m' Q1) = Q2
                        show zW E (d - 1 - 1) 144 0 [(2, 69), (0, i80), (0, 5)] [] m81 Q2
                        refine zw_7 zr_144_0 rfl ?_
                        refine zw_46r (s := 70) zr_144_1 rfl rfl rfl rfl ?_
                        refine zw_push zr_144_4 ?_
                        refine zw_push zr_144_6 ?_
                        refine zw_3 zr_144_8 rfl ?_
                        refine zw_18 zr_144_9 (by omega) ?_
                        refine zw_16 zr_144_10 (by omega) ?_
                        refine zw_3 zr_144_11 rfl ?_
                        refine zw_16 zr_144_12 (by omega) ?_
                        refine zw_48 (c := 70) (len := 826) zr_144_13 rfl rfl (by omega) (by omega) ?_
                        intro x91 ex91
                        have bx91 := ib_70_m5 hIm81 (k := (((90 + (6 * i80)) + 5)).toNat) (by omega)
                        rw [← ex91] at bx91
                        clear ex91
                        refine zw_R zr_144_14 (by decide) zm_144 (v := (0, x91)) rfl ?_
                        rw [← hQ2]
                        show zW E (d - 1) 181 15 [(2, 69), (0, i80)] [(0, x91)] m81 Q1
                        refine zw_40_4 zr_181_15 ?_ ?_
                        · intro h92
                          refine zw_push zr_181_22 ?_
                          refine zw_R zr_181_23 (by decide) zm_181 (v := (0, 0)) (zRetB (by omega)) ?_
                          rw [← hQ1]
                          show zW E (d) 187 72 [(2, 69), (0, i10), (0, i80), (9, 0)] [(0, 0)] m81 Q
                          refine zw_40_1 zr_187_72 ?_ ?_
                          · intro h93
                            refine zw_15 (c := 1) (L' := [(2, 69), (0, i10), (0, (i80 + 1)), (9, 0)]) zr_187_101 rfl (by decide) (by omega) rfl ?_
                            refine zw_42 zr_187_104 ?_
                            exact zw_less (L := [(2, 69), (0, i10), (0, (i80 + 1)), (9, 0)]) ⟨Or.inr rfl, Or.inr rfl, Or.inr rfl, Or.inl rfl, trivial⟩ (ihlp62_82 ((i80 + 1)) m81 hIm81 hFm81  km81_70_823 fm81_70 (by omega) (by omega)  (by omega))
                          · intro h94; omega
                        · intro h95
                          refine zw_push zr_181_18 ?_
                          refine zw_42 zr_181_19 ?_
                          refine zw_R zr_181_23 (by decide) zm_181 (v := (0, 1)) (zRetB (by omega)) ?_
                          rw [← hQ1]
                          show zW E (d) 187 72 [(2, 69), (0, i10), (0, i80), (9, 0)] [(0, 1)] m81 Q
                          refine zw_40_1 zr_187_72 ?_ ?_
                          · intro h96; omega
                          · intro h97
                            refine zw_7 zr_187_75 rfl ?_
                            refine zw_3 zr_187_76 rfl ?_
                            refine zw_C zr_187_77 (Or.inl rfl) zm_181 rfl rfl ⟨Nat.le_of_ble_eq_true rfl, Nat.le_of_ble_eq_true rfl, Nat.le_of_ble_eq_true rfl, rfl, by decide⟩ (by omega) (P := (fun v m' => zW E (d) 187 80 [(2, 69), (0, i10), (0, i80), (9, 0)] (if v.1 = 9 then [] else v :: []) m' Q)) ?_ (fun _ _ h => h)
                            generalize hQ1 : (fun v m' => zW E (d) 187 80 [(2, 69), (0, i10), (0, i80), (9, 0)] (if v.1 = 9 then [] else v :: []) m' Q) = Q1
                            show zW E (d - 1) 181 0 [(2, 69), (0, i10)] [] m81 Q1
                            refine zw_7 zr_181_0 rfl ?_
                            refine zw_3 zr_181_1 rfl ?_
                            refine zw_push zr_181_2 ?_
                            refine zw_C zr_181_3 (Or.inl rfl) zm_144 rfl rfl ⟨Nat.le_of_ble_eq_true rfl, Nat.le_of_ble_eq_true rfl, Nat.le_of_ble_eq_true rfl, rfl, by decide⟩ (by omega) (P := (fun v m' => zW E (d - 1) 181 6 [(2, 69), (0, i10)] (if v.1 = 9 then [] else v :: []) m' Q1)) ?_ (fun _ _ h => h)
                            generalize hQ2 : (fun v m' => zW E (d - 1) 181 6 [(2, 69), (0, i10)] (if v.1 = 9 then [] else v :: []) m' Q1) = Q2
                            show zW E (d - 1 - 1) 144 0 [(2, 69), (0, i10), (0, 4)] [] m81 Q2
                            refine zw_7 zr_144_0 rfl ?_
                            refine zw_46r (s := 70) zr_144_1 rfl rfl rfl rfl ?_
                            refine zw_push zr_144_4 ?_
                            refine zw_push zr_144_6 ?_
                            refine zw_3 zr_144_8 rfl ?_
                            refine zw_18 zr_144_9 (by omega) ?_
                            refine zw_16 zr_144_10 (by omega) ?_
                            refine zw_3 zr_144_11 rfl ?_
                            refine zw_16 zr_144_12 (by omega) ?_
                            refine zw_48 (c := 70) (len := 826) zr_144_13 rfl rfl (by omega) (by omega) ?_
                            intro x98 ex98
                            have bx98 := ib_70_m4 hIm81 (k := (((90 + (6 * i10)) + 4)).toNat) (by omega)
                            rw [← ex98] at bx98
                            clear ex98
                            refine zw_R zr_144_14 (by decide) zm_144 (v := (0, x98)) rfl ?_
                            rw [← hQ2]
                            show zW E (d - 1) 181 6 [(2, 69), (0, i10)] [(0, x98)] m81 Q1
                            refine zw_40_4 zr_181_6 ?_ ?_
                            · intro h99
                              refine zw_push zr_181_22 ?_
                              refine zw_R zr_181_23 (by decide) zm_181 (v := (0, 0)) (zRetB (by omega)) ?_
                              rw [← hQ1]
                              show zW E (d) 187 80 [(2, 69), (0, i10), (0, i80), (9, 0)] [(0, 0)] m81 Q
                              refine zw_40_1 zr_187_80 ?_ ?_
                              · intro h100
                                refine zw_15 (c := 1) (L' := [(2, 69), (0, i10), (0, (i80 + 1)), (9, 0)]) zr_187_101 rfl (by decide) (by omega) rfl ?_
                                refine zw_42 zr_187_104 ?_
                                exact zw_less (L := [(2, 69), (0, i10), (0, (i80 + 1)), (9, 0)]) ⟨Or.inr rfl, Or.inr rfl, Or.inr rfl, Or.inl rfl, trivial⟩ (ihlp62_82 ((i80 + 1)) m81 hIm81 hFm81  km81_70_823 fm81_70 (by omega) (by omega)  (by omega))
                              · intro h101; omega
                            · intro h102
                              refine zw_7 zr_181_9 rfl ?_
                              refine zw_3 zr_181_10 rfl ?_
                              refine zw_push zr_181_11 ?_
                              refine zw_C zr_181_12 (Or.inl rfl) zm_144 rfl rfl ⟨Nat.le_of_ble_eq_true rfl, Nat.le_of_ble_eq_true rfl, Nat.le_of_ble_eq_true rfl, rfl, by decide⟩ (by omega) (P := (fun v m' => zW E (d - 1) 181 15 [(2, 69), (0, i10)] (if v.1 = 9 then [] else v :: []) m' Q1)) ?_ (fun _ _ h => h)
                              generalize hQ2 : (fun v m' => zW E (d - 1) 181 15 [(2, 69), (0, i10)] (if v.1 = 9 then [] else v :: []) m' Q1) = Q2
                              show zW E (d - 1 - 1) 144 0 [(2, 69), (0, i10), (0, 5)] [] m81 Q2
                              refine zw_7 zr_144_0 rfl ?_
                              refine zw_46r (s := 70) zr_144_1 rfl rfl rfl rfl ?_
                              refine zw_push zr_144_4 ?_
                              refine zw_push zr_144_6 ?_
                              refine zw_3 zr_144_8 rfl ?_
                              refine zw_18 zr_144_9 (by omega) ?_
                              refine zw_16 zr_144_10 (by omega) ?_
                              refine zw_3 zr_144_11 rfl ?_
                              refine zw_16 zr_144_12 (by omega) ?_
                              refine zw_48 (c := 70) (len := 826) zr_144_13 rfl rfl (by omega) (by omega) ?_
                              intro x103 ex103
                              have bx103 := ib_70_m5 hIm81 (k := (((90 + (6 * i10)) + 5)).toNat) (by omega)
                              rw [← ex103] at bx103
                              clear ex103
                              refine zw_R zr_144_14 (by decide) zm_144 (v := (0, x103)) rfl ?_
                              rw [← hQ2]
                              show zW E (d - 1) 181 15 [(2, 69), (0, i10)] [(0, x103)] m81 Q1
                              refine zw_40_4 zr_181_15 ?_ ?_
                              · intro h104
                                refine zw_push zr_181_22 ?_
                                refine zw_R zr_181_23 (by decide) zm_181 (v := (0, 0)) (zRetB (by omega)) ?_
                                rw [← hQ1]
                                show zW E (d) 187 80 [(2, 69), (0, i10), (0, i80), (9, 0)] [(0, 0)] m81 Q
                                refine zw_40_1 zr_187_80 ?_ ?_
                                · intro h105
                                  refine zw_15 (c := 1) (L' := [(2, 69), (0, i10), (0, (i80 + 1)), (9, 0)]) zr_187_101 rfl (by decide) (by omega) rfl ?_
                                  refine zw_42 zr_187_104 ?_
                                  exact zw_less (L := [(2, 69), (0, i10), (0, (i80 + 1)), (9, 0)]) ⟨Or.inr rfl, Or.inr rfl, Or.inr rfl, Or.inl rfl, trivial⟩ (ihlp62_82 ((i80 + 1)) m81 hIm81 hFm81  km81_70_823 fm81_70 (by omega) (by omega)  (by omega))
                                · intro h106; omega
                              · intro h107
                                refine zw_push zr_181_18 ?_
                                refine zw_42 zr_181_19 ?_
                                refine zw_R zr_181_23 (by decide) zm_181 (v := (0, 1)) (zRetB (by omega)) ?_
                                rw [← hQ1]
                                show zW E (d) 187 80 [(2, 69), (0, i10), (0, i80), (9, 0)] [(0, 1)] m81 Q
                                refine zw_40_1 zr_187_80 ?_ ?_
                                · intro h108; omega
                                · intro h109
                                  refine zw_7 zr_187_83 rfl ?_
                                  refine zw_3 zr_187_84 rfl ?_
                                  refine zw_3 zr_187_85 rfl ?_
                                  refine zw_push zr_187_86 ?_
                                  refine zw_C zr_187_87 (Or.inl rfl) zm_184 rfl rfl ⟨Nat.le_of_ble_eq_true rfl, Nat.le_of_ble_eq_true rfl, Nat.le_of_ble_eq_true rfl, rfl, by decide⟩ (by omega) (th_184 (d := d - 1) (by omega) hIm81 (a0 := i80) (a1 := i10) (a2 := (-1)) (g0 := g0)  (F70 := F70) (F80 := m81 80) km81_70_823 fm81_70 rfl (by omega) (by omega) (by omega) (hp0)) ?_
                                  rintro _ m111 ⟨r112, rfl, hr112a, hr112b, hIm111, gm111, po0_r112⟩
                                  have hFm111 : zFr W_187 m0 m111 := hFm81.trans gm111 rfl
                                  have km111_70_823 : m111 70 823 = g0 := (gm111 70 823 rfl).trans km81_70_823
                                  have fm111_70 : m111 70 = F70 := (funext fun k => gm111 70 k rfl).trans fm81_70
                                  show zW E (d) 187 90 [(2, 69), (0, i10), (0, i80), (9, 0)] [(0, r112)] m111 Q
                                  refine zw_40_1 zr_187_90 ?_ ?_
                                  · intro h113
                                    refine zw_15 (c := 1) (L' := [(2, 69), (0, i10), (0, (i80 + 1)), (9, 0)]) zr_187_101 rfl (by decide) (by omega) rfl ?_
                                    refine zw_42 zr_187_104 ?_
                                    exact zw_less (L := [(2, 69), (0, i10), (0, (i80 + 1)), (9, 0)]) ⟨Or.inr rfl, Or.inr rfl, Or.inr rfl, Or.inl rfl, trivial⟩ (ihlp62_82 ((i80 + 1)) m111 hIm111 hFm111  km111_70_823 fm111_70 (by omega) (by omega)  (by omega))
                                  · intro h114
                                    refine zw_push zr_187_93 ?_
                                    refine zw_3 zr_187_94 rfl ?_
                                    refine zw_33p zr_187_95 (by omega) ?_
                                    intro x115 ex115 hx115a hx115b
                                    refine zw_push zr_187_96 ?_
                                    refine zw_3 zr_187_97 rfl ?_
                                    refine zw_33p zr_187_98 (by omega) ?_
                                    intro x116 ex116 hx116a hx116b
                                    refine zw_31h zr_187_99 ?_
                                    intro x117 hx117a hx117b
                                    refine zw_R zr_187_100 (by decide) zm_187 (v := (1, x117)) rfl ?_
                                    rw [← hQ]; exact ⟨_, rfl, by omega, by omega, hIm111, hFm111⟩
                exact lp62_82 _ (0) m11 hIm11 hFm11  km11_70_823 fm11_70 (by omega) (by omega)  (Nat.lt_succ_self _)
          exact lp52_12 _ (0) m6 hIm6 hFm6  km6_70_823 fm6_70 (by omega) (by omega)  (Nat.lt_succ_self _)
        · intro h118
          refine zw_7 zr_187_22 rfl ?_
          refine zw_3 zr_187_23 rfl ?_
          refine zw_C zr_187_24 (Or.inl rfl) zm_181 rfl rfl ⟨Nat.le_of_ble_eq_true rfl, Nat.le_of_ble_eq_true rfl, Nat.le_of_ble_eq_true rfl, rfl, by decide⟩ (by omega) (P := (fun v m' => zW E (d) 187 27 [(2, 69), (0, i5), (9, 0), (9, 0)] (if v.1 = 9 then [] else v :: []) m' Q)) ?_ (fun _ _ h => h)
          generalize hQ1 : (fun v m' => zW E (d) 187 27 [(2, 69), (0, i5), (9, 0), (9, 0)] (if v.1 = 9 then [] else v :: []) m' Q) = Q1
          show zW E (d - 1) 181 0 [(2, 69), (0, i5)] [] m6 Q1
          refine zw_7 zr_181_0 rfl ?_
          refine zw_3 zr_181_1 rfl ?_
          refine zw_push zr_181_2 ?_
          refine zw_C zr_181_3 (Or.inl rfl) zm_144 rfl rfl ⟨Nat.le_of_ble_eq_true rfl, Nat.le_of_ble_eq_true rfl, Nat.le_of_ble_eq_true rfl, rfl, by decide⟩ (by omega) (P := (fun v m' => zW E (d - 1) 181 6 [(2, 69), (0, i5)] (if v.1 = 9 then [] else v :: []) m' Q1)) ?_ (fun _ _ h => h)
          generalize hQ2 : (fun v m' => zW E (d - 1) 181 6 [(2, 69), (0, i5)] (if v.1 = 9 then [] else v :: []) m' Q1) = Q2
          show zW E (d - 1 - 1) 144 0 [(2, 69), (0, i5), (0, 4)] [] m6 Q2
          refine zw_7 zr_144_0 rfl ?_
          refine zw_46r (s := 70) zr_144_1 rfl rfl rfl rfl ?_
          refine zw_push zr_144_4 ?_
          refine zw_push zr_144_6 ?_
          refine zw_3 zr_144_8 rfl ?_
          refine zw_18 zr_144_9 (by omega) ?_
          refine zw_16 zr_144_10 (by omega) ?_
          refine zw_3 zr_144_11 rfl ?_
          refine zw_16 zr_144_12 (by omega) ?_
          refine zw_48 (c := 70) (len := 826) zr_144_13 rfl rfl (by omega) (by omega) ?_
          intro x119 ex119
          have bx119 := ib_70_m4 hIm6 (k := (((90 + (6 * i5)) + 4)).toNat) (by omega)
          rw [← ex119] at bx119
          clear ex119
          refine zw_R zr_144_14 (by decide) zm_144 (v := (0, x119)) rfl ?_
          rw [← hQ2]
          show zW E (d - 1) 181 6 [(2, 69), (0, i5)] [(0, x119)] m6 Q1
          refine zw_40_4 zr_181_6 ?_ ?_
          · intro h120
            refine zw_push zr_181_22 ?_
            refine zw_R zr_181_23 (by decide) zm_181 (v := (0, 0)) (zRetB (by omega)) ?_
            rw [← hQ1]
            show zW E (d) 187 27 [(2, 69), (0, i5), (9, 0), (9, 0)] [(0, 0)] m6 Q
            refine zw_40_1 zr_187_27 ?_ ?_
            · intro h121
              refine zw_15 (c := 1) (L' := [(2, 69), (0, (i5 + 1)), (9, 0), (9, 0)]) zr_187_44 rfl (by decide) (by omega) rfl ?_
              refine zw_42 zr_187_47 ?_
              exact zw_less (L := [(2, 69), (0, (i5 + 1)), (9, 0), (9, 0)]) ⟨Or.inr rfl, Or.inr rfl, Or.inl rfl, Or.inl rfl, trivial⟩ (ihlp14_7 ((i5 + 1)) m6 hIm6 hFm6  km6_70_823 fm6_70 (by omega) (by omega)  (by omega))
            · intro h122; omega
          · intro h123
            refine zw_7 zr_181_9 rfl ?_
            refine zw_3 zr_181_10 rfl ?_
            refine zw_push zr_181_11 ?_
            refine zw_C zr_181_12 (Or.inl rfl) zm_144 rfl rfl ⟨Nat.le_of_ble_eq_true rfl, Nat.le_of_ble_eq_true rfl, Nat.le_of_ble_eq_true rfl, rfl, by decide⟩ (by omega) (P := (fun v m' => zW E (d - 1) 181 15 [(2, 69), (0, i5)] (if v.1 = 9 then [] else v :: []) m' Q1)) ?_ (fun _ _ h => h)
            generalize hQ2 : (fun v m' => zW E (d - 1) 181 15 [(2, 69), (0, i5)] (if v.1 = 9 then [] else v :: []) m' Q1) = Q2
            show zW E (d - 1 - 1) 144 0 [(2, 69), (0, i5), (0, 5)] [] m6 Q2
            refine zw_7 zr_144_0 rfl ?_
            refine zw_46r (s := 70) zr_144_1 rfl rfl rfl rfl ?_
            refine zw_push zr_144_4 ?_
            refine zw_push zr_144_6 ?_
            refine zw_3 zr_144_8 rfl ?_
            refine zw_18 zr_144_9 (by omega) ?_
            refine zw_16 zr_144_10 (by omega) ?_
            refine zw_3 zr_144_11 rfl ?_
            refine zw_16 zr_144_12 (by omega) ?_
            refine zw_48 (c := 70) (len := 826) zr_144_13 rfl rfl (by omega) (by omega) ?_
            intro x124 ex124
            have bx124 := ib_70_m5 hIm6 (k := (((90 + (6 * i5)) + 5)).toNat) (by omega)
            rw [← ex124] at bx124
            clear ex124
            refine zw_R zr_144_14 (by decide) zm_144 (v := (0, x124)) rfl ?_
            rw [← hQ2]
            show zW E (d - 1) 181 15 [(2, 69), (0, i5)] [(0, x124)] m6 Q1
            refine zw_40_4 zr_181_15 ?_ ?_
            · intro h125
              refine zw_push zr_181_22 ?_
              refine zw_R zr_181_23 (by decide) zm_181 (v := (0, 0)) (zRetB (by omega)) ?_
              rw [← hQ1]
              show zW E (d) 187 27 [(2, 69), (0, i5), (9, 0), (9, 0)] [(0, 0)] m6 Q
              refine zw_40_1 zr_187_27 ?_ ?_
              · intro h126
                refine zw_15 (c := 1) (L' := [(2, 69), (0, (i5 + 1)), (9, 0), (9, 0)]) zr_187_44 rfl (by decide) (by omega) rfl ?_
                refine zw_42 zr_187_47 ?_
                exact zw_less (L := [(2, 69), (0, (i5 + 1)), (9, 0), (9, 0)]) ⟨Or.inr rfl, Or.inr rfl, Or.inl rfl, Or.inl rfl, trivial⟩ (ihlp14_7 ((i5 + 1)) m6 hIm6 hFm6  km6_70_823 fm6_70 (by omega) (by omega)  (by omega))
              · intro h127; omega
            · intro h128
              refine zw_push zr_181_18 ?_
              refine zw_42 zr_181_19 ?_
              refine zw_R zr_181_23 (by decide) zm_181 (v := (0, 1)) (zRetB (by omega)) ?_
              rw [← hQ1]
              show zW E (d) 187 27 [(2, 69), (0, i5), (9, 0), (9, 0)] [(0, 1)] m6 Q
              refine zw_40_1 zr_187_27 ?_ ?_
              · intro h129; omega
              · intro h130
                refine zw_7 zr_187_30 rfl ?_
                refine zw_3 zr_187_31 rfl ?_
                refine zw_push zr_187_32 ?_
                refine zw_push zr_187_33 ?_
                refine zw_C zr_187_34 (Or.inl rfl) zm_184 rfl rfl ⟨Nat.le_of_ble_eq_true rfl, Nat.le_of_ble_eq_true rfl, Nat.le_of_ble_eq_true rfl, rfl, by decide⟩ (by omega) (th_184 (d := d - 1) (by omega) hIm6 (a0 := i5) (a1 := (-1)) (a2 := (-1)) (g0 := g0)  (F70 := F70) (F80 := m6 80) km6_70_823 fm6_70 rfl (by omega) (by omega) (by omega) (hp0)) ?_
                rintro _ m132 ⟨r133, rfl, hr133a, hr133b, hIm132, gm132, po0_r133⟩
                have hFm132 : zFr W_187 m0 m132 := hFm6.trans gm132 rfl
                have km132_70_823 : m132 70 823 = g0 := (gm132 70 823 rfl).trans km6_70_823
                have fm132_70 : m132 70 = F70 := (funext fun k => gm132 70 k rfl).trans fm6_70
                show zW E (d) 187 37 [(2, 69), (0, i5), (9, 0), (9, 0)] [(0, r133)] m132 Q
                refine zw_40_1 zr_187_37 ?_ ?_
                · intro h134
                  refine zw_15 (c := 1) (L' := [(2, 69), (0, (i5 + 1)), (9, 0), (9, 0)]) zr_187_44 rfl (by decide) (by omega) rfl ?_
                  refine zw_42 zr_187_47 ?_
                  exact zw_less (L := [(2, 69), (0, (i5 + 1)), (9, 0), (9, 0)]) ⟨Or.inr rfl, Or.inr rfl, Or.inl rfl, Or.inl rfl, trivial⟩ (ihlp14_7 ((i5 + 1)) m132 hIm132 hFm132  km132_70_823 fm132_70 (by omega) (by omega)  (by omega))
                · intro h135
                  refine zw_push zr_187_40 ?_
                  refine zw_3 zr_187_41 rfl ?_
                  refine zw_33p zr_187_42 (by omega) ?_
                  intro x136 ex136 hx136a hx136b
                  refine zw_R zr_187_43 (by decide) zm_187 (v := (1, x136)) rfl ?_
                  rw [← hQ]; exact ⟨_, rfl, by omega, by omega, hIm132, hFm132⟩
    exact lp14_7 _ (0) m2 hIm2 hFm2  km2_70_823 fm2_70 (by omega) (by omega)  (Nat.lt_succ_self _)
  · intro h137
    refine zw_push zr_187_10 ?_
    refine zw_R zr_187_11 (by decide) zm_187 (v := (1, 0)) rfl ?_
    rw [← hQ]; exact ⟨_, rfl, by omega, by omega, hIm2, hFm2⟩
