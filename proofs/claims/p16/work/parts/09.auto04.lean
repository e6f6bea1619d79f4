abbrev W_121 : List (Nat × Nat) := [(61, 1000), (62, 1000)]
set_option maxHeartbeats 8000000 in
theorem th_121 {E : zE} {d : Nat} {m0 : zM} (hd : 5 ≤ d) (hI0 : zInv m0) {a0 : Int} {a1 : Int} {a2 : Int} (ha0 : (-2147483648) ≤ a0 ∧ a0 ≤ 2147483647) (ha1 : (-2147483648) ≤ a1 ∧ a1 ≤ 2147483647) (ha2 : (-2147483648) ≤ a2 ∧ a2 ≤ 2147483647) : zC E d 121 [(2, 0), (0, a0), (0, a1), (0, a2)] m0 (fun v m' => ∃ r : Int, v = (0, r) ∧ (-2147483648) ≤ r ∧ r ≤ 2147483647 ∧ zInv m' ∧ zFr W_121 m0 m') := by
  have hF0 : zFr W_121 m0 m0 := zFr.rfl
  generalize hQ : (fun (v : zV) (m' : zM) => ∃ r : Int, v = (0, r) ∧ (-2147483648) ≤ r ∧ r ≤ 2147483647 ∧ zInv m' ∧ zFr W_121 m0 m') = Q
  show zW E d 121 0 [(2, 0), (0, a0), (0, a1), (0, a2), (9, 0)] [] m0 Q
  refine zw_7 zr_121_0 rfl ?_
  refine zw_46r (s := 1) zr_121_1 rfl rfl rfl rfl ?_
  refine zw_3 zr_121_4 rfl ?_
  refine zw_C zr_121_5 (Or.inl rfl) zm_49 rfl rfl ⟨Nat.le_of_ble_eq_true rfl, Nat.le_of_ble_eq_true rfl, Nat.le_of_ble_eq_true rfl, rfl, by decide⟩ (by omega) (P := (fun v m' => zW E (d) 121 8 [(2, 0), (0, a0), (0, a1), (0, a2), (9, 0)] (if v.1 = 9 then [] else v :: []) m' Q)) ?_ (fun _ _ h => h)
  generalize hQ1 : (fun v m' => zW E (d) 121 8 [(2, 0), (0, a0), (0, a1), (0, a2), (9, 0)] (if v.1 = 9 then [] else v :: []) m' Q) = Q1
  show zW E (d - 1) 49 0 [(2, 1), (0, a0)] [] m0 Q1
  refine zw_3 zr_49_0 rfl ?_
  refine zw_40_0 zr_49_1 ?_ ?_
  · intro h1
    refine zw_push zr_49_16 ?_
    refine zw_R zr_49_17 (by decide) zm_49 (v := (0, 0)) (zRetB (by omega)) ?_
    rw [← hQ1]
    show zW E (d) 121 8 [(2, 0), (0, a0), (0, a1), (0, a2), (9, 0)] [(0, 0)] m0 Q
    refine zw_40_1 zr_121_8 ?_ ?_
    · intro h2
      refine zw_push zr_121_27 ?_
      refine zw_R zr_121_29 (by decide) zm_121 (v := (0, (-10))) rfl ?_
      rw [← hQ]; exact ⟨_, rfl, by omega, by omega, hI0, hF0⟩
    · intro h3; omega
  · intro h4
    refine zw_3 zr_49_4 rfl ?_
    refine zw_7 zr_49_5 rfl ?_
    obtain ⟨f5, ef5⟩ : ∃ v, m0 1 0 = v := ⟨_, rfl⟩
    have bf5 := ib_1_0 hI0
    rw [ef5] at bf5
    refine zw_46i zr_49_6 ef5 rfl rfl rfl ?_
    refine zw_41_3 zr_49_9 ?_ ?_
    · intro h6
      refine zw_push zr_49_16 ?_
      refine zw_R zr_49_17 (by decide) zm_49 (v := (0, 0)) (zRetB (by omega)) ?_
      rw [← hQ1]
      show zW E (d) 121 8 [(2, 0), (0, a0), (0, a1), (0, a2), (9, 0)] [(0, 0)] m0 Q
      refine zw_40_1 zr_121_8 ?_ ?_
      · intro h7
        refine zw_push zr_121_27 ?_
        refine zw_R zr_121_29 (by decide) zm_121 (v := (0, (-10))) rfl ?_
        rw [← hQ]; exact ⟨_, rfl, by omega, by omega, hI0, hF0⟩
      · intro h8; omega
    · intro h9
      refine zw_push zr_49_12 ?_
      refine zw_42 zr_49_13 ?_
      refine zw_R zr_49_17 (by decide) zm_49 (v := (0, 1)) (zRetB (by omega)) ?_
      rw [← hQ1]
      show zW E (d) 121 8 [(2, 0), (0, a0), (0, a1), (0, a2), (9, 0)] [(0, 1)] m0 Q
      refine zw_40_1 zr_121_8 ?_ ?_
      · intro h10; omega
      · intro h11
        refine zw_7 zr_121_11 rfl ?_
        refine zw_46r (s := 1) zr_121_12 rfl rfl rfl rfl ?_
        refine zw_3 zr_121_15 rfl ?_
        refine zw_C zr_121_16 (Or.inl rfl) zm_49 rfl rfl ⟨Nat.le_of_ble_eq_true rfl, Nat.le_of_ble_eq_true rfl, Nat.le_of_ble_eq_true rfl, rfl, by decide⟩ (by omega) (P := (fun v m' => zW E (d) 121 19 [(2, 0), (0, a0), (0, a1), (0, a2), (9, 0)] (if v.1 = 9 then [] else v :: []) m' Q)) ?_ (fun _ _ h => h)
        generalize hQ1 : (fun v m' => zW E (d) 121 19 [(2, 0), (0, a0), (0, a1), (0, a2), (9, 0)] (if v.1 = 9 then [] else v :: []) m' Q) = Q1
        show zW E (d - 1) 49 0 [(2, 1), (0, a1)] [] m0 Q1
        refine zw_3 zr_49_0 rfl ?_
        refine zw_40_0 zr_49_1 ?_ ?_
        · intro h12
          refine zw_push zr_49_16 ?_
          refine zw_R zr_49_17 (by decide) zm_49 (v := (0, 0)) (zRetB (by omega)) ?_
          rw [← hQ1]
          show zW E (d) 121 19 [(2, 0), (0, a0), (0, a1), (0, a2), (9, 0)] [(0, 0)] m0 Q
          refine zw_40_1 zr_121_19 ?_ ?_
          · intro h13
            refine zw_push zr_121_27 ?_
            refine zw_R zr_121_29 (by decide) zm_121 (v := (0, (-10))) rfl ?_
            rw [← hQ]; exact ⟨_, rfl, by omega, by omega, hI0, hF0⟩
          · intro h14; omega
        · intro h15
          refine zw_3 zr_49_4 rfl ?_
          refine zw_7 zr_49_5 rfl ?_
          refine zw_46i zr_49_6 ef5 rfl rfl rfl ?_
          refine zw_41_3 zr_49_9 ?_ ?_
          · intro h16
            refine zw_push zr_49_16 ?_
            refine zw_R zr_49_17 (by decide) zm_49 (v := (0, 0)) (zRetB (by omega)) ?_
            rw [← hQ1]
            show zW E (d) 121 19 [(2, 0), (0, a0), (0, a1), (0, a2), (9, 0)] [(0, 0)] m0 Q
            refine zw_40_1 zr_121_19 ?_ ?_
            · intro h17
              refine zw_push zr_121_27 ?_
              refine zw_R zr_121_29 (by decide) zm_121 (v := (0, (-10))) rfl ?_
              rw [← hQ]; exact ⟨_, rfl, by omega, by omega, hI0, hF0⟩
            · intro h18; omega
          · intro h19
            refine zw_push zr_49_12 ?_
            refine zw_42 zr_49_13 ?_
            refine zw_R zr_49_17 (by decide) zm_49 (v := (0, 1)) (zRetB (by omega)) ?_
            rw [← hQ1]
            show zW E (d) 121 19 [(2, 0), (0, a0), (0, a1), (0, a2), (9, 0)] [(0, 1)] m0 Q
            refine zw_40_1 zr_121_19 ?_ ?_
            · intro h20; omega
            · intro h21
              refine zw_3 zr_121_22 rfl ?_
              refine zw_push zr_121_23 ?_
              refine zw_41_3 zr_121_24 ?_ ?_
              · intro h22
                refine zw_7 zr_121_30 rfl ?_
                refine zw_46r (s := 60) zr_121_31 rfl rfl rfl rfl ?_
                refine zw_3 zr_121_34 rfl ?_
                refine zw_3 zr_121_35 rfl ?_
                refine zw_C zr_121_36 (Or.inl rfl) zm_72 rfl rfl ⟨Nat.le_of_ble_eq_true rfl, Nat.le_of_ble_eq_true rfl, Nat.le_of_ble_eq_true rfl, rfl, by decide⟩ (by omega) (th_72 (d := d - 1) (by omega) hI0 (a0 := a0) (a1 := a1) (by omega) (by omega)) ?_
                rintro _ m23 ⟨r24, rfl, hr24a, hr24b, hIm23, gm23⟩
                have hFm23 : zFr W_121 m0 m23 := hF0.trans gm23 rfl
                have km23_1_0 : m23 1 0 = f5 := (gm23 1 0 rfl).trans ef5
                show zW E (d) 121 39 [(2, 0), (0, a0), (0, a1), (0, a2), (9, 0)] [(0, r24)] m23 Q
                refine zw_10 (L' := [(2, 0), (0, a0), (0, a1), (0, a2), (0, r24)]) zr_121_39 (Nat.le_of_ble_eq_true rfl) rfl ?_
                refine zw_3 zr_121_41 rfl ?_
                refine zw_push zr_121_42 ?_
                refine zw_41_4 zr_121_43 ?_ ?_
                · intro h25
                  refine zw_3 zr_121_49 rfl ?_
                  refine zw_4 zr_121_50 rfl ?_
                  refine zw_41_3 zr_121_52 ?_ ?_
                  · intro h26
                    refine zw_push zr_121_67 ?_
                    refine zw_R zr_121_69 (by decide) zm_121 (v := (0, (-5))) rfl ?_
                    rw [← hQ]; exact ⟨_, rfl, by omega, by omega, hIm23, hFm23⟩
                  · intro h27
                    refine zw_7 zr_121_55 rfl ?_
                    refine zw_46r (s := 60) zr_121_56 rfl rfl rfl rfl ?_
                    refine zw_3 zr_121_59 rfl ?_
                    refine zw_3 zr_121_60 rfl ?_
                    refine zw_C zr_121_61 (Or.inl rfl) zm_75 rfl rfl ⟨Nat.le_of_ble_eq_true rfl, Nat.le_of_ble_eq_true rfl, Nat.le_of_ble_eq_true rfl, rfl, by decide⟩ (by omega) (th_75 (d := d - 1) (by omega) hIm23 (a0 := a0) (a1 := a2) (by omega) (by omega)) ?_
                    rintro _ _ ⟨r28, rfl, hr28a, hr28b, rfl⟩
                    show zW E (d) 121 64 [(2, 0), (0, a0), (0, a1), (0, a2), (0, r24)] [(0, r28)] m23 Q
                    refine zw_42 zr_121_64 ?_
                    refine zw_R zr_121_69 (by decide) zm_121 (v := (0, r28)) rfl ?_
                    rw [← hQ]; exact ⟨_, rfl, by omega, by omega, hIm23, hFm23⟩
                · intro h29
                  refine zw_4 zr_121_46 rfl ?_
                  refine zw_R zr_121_48 (by decide) zm_121 (v := (0, r24)) rfl ?_
                  rw [← hQ]; exact ⟨_, rfl, by omega, by omega, hIm23, hFm23⟩
              · intro h30
                refine zw_push zr_121_27 ?_
                refine zw_R zr_121_29 (by decide) zm_121 (v := (0, (-10))) rfl ?_
                rw [← hQ]; exact ⟨_, rfl, by omega, by omega, hI0, hF0⟩

abbrev W_188 : List (Nat × Nat) := [(81, 1000)]
set_option maxHeartbeats 8000000 in
theorem th_188 {E : zE} {d : Nat} {m0 : zM} (hd : 3 ≤ d) (hI0 : zInv m0) {a0 : Int} {a1 : Int} (ha0 : 0 ≤ a0 ∧ a0 ≤ 9) (ha1 : (-1) ≤ a1 ∧ a1 ≤ 59) : zC E d 188 [(2, 69), (0, a0), (0, a1)] m0 (fun v m' => v = (9, 0) ∧ zInv m' ∧ zFr W_188 m0 m') := by
  have hF0 : zFr W_188 m0 m0 := zFr.rfl
  generalize hQ : (fun (v : zV) (m' : zM) => v = (9, 0) ∧ zInv m' ∧ zFr W_188 m0 m') = Q
  show zW E d 188 0 [(2, 69), (0, a0), (0, a1), (9, 0), (9, 0), (9, 0), (9, 0)] [] m0 Q
  refine zw_push zr_188_0 ?_
  refine zw_9 (L' := [(2, 69), (0, a0), (0, a1), (0, 0), (9, 0), (9, 0), (9, 0)]) zr_188_1 (Nat.le_of_ble_eq_true rfl) rfl ?_
  have lp2_3 : ∀ (nlp2_3 : Nat) (i1 : Int) (m2 : zM), zInv m2 → zFr W_188 m0 m2 → 0 ≤ i1 → i1 ≤ 10 → (10 - i1).toNat < nlp2_3 → zW E (d) 188 2 [(2, 69), (0, a0), (0, a1), (0, i1), (9, 0), (9, 0), (9, 0)] [] m2 Q := by
    intro nlp2_3
    induction nlp2_3 with
    | zero =>
      intros
      exact absurd (by assumption : _ < 0) (Nat.not_lt_zero _)
    | succ nlp2_3 ihlp2_3 =>
      intro i1 m2 hIm2 hFm2 li1 ui1 hmlp2_3
      refine zw_3 zr_188_2 rfl ?_
      refine zw_push zr_188_3 ?_
      refine zw_41_3 zr_188_5 ?_ ?_
      · intro h5
        refine zw_push zr_188_31 ?_
        refine zw_9 (L' := [(2, 69), (0, a0), (0, a1), (0, 0), (9, 0), (9, 0), (9, 0)]) zr_188_32 (Nat.le_of_ble_eq_true rfl) rfl ?_
        have lp33_8 : ∀ (nlp33_8 : Nat) (i6 : Int) (m7 : zM), zInv m7 → zFr W_188 m0 m7 → 0 ≤ i6 → i6 ≤ 10 → (10 - i6).toNat < nlp33_8 → zW E (d) 188 33 [(2, 69), (0, a0), (0, a1), (0, i6), (9, 0), (9, 0), (9, 0)] [] m7 Q := by
          intro nlp33_8
          induction nlp33_8 with
          | zero =>
            intros
            exact absurd (by assumption : _ < 0) (Nat.not_lt_zero _)
          | succ nlp33_8 ihlp33_8 =>
            intro i6 m7 hIm7 hFm7 li6 ui6 hmlp33_8
            refine zw_3 zr_188_33 rfl ?_
            refine zw_push zr_188_34 ?_
            refine zw_41_3 zr_188_36 ?_ ?_
            · intro h10
              refine zw_R zr_188_186 (by decide) zm_188 (v := (9, 0)) rfl ?_
              rw [← hQ]; exact ⟨rfl, hIm7, hFm7⟩
            · intro h11
              refine zw_push zr_188_39 ?_
              refine zw_10 (L' := [(2, 69), (0, a0), (0, a1), (0, i6), (0, 0), (9, 0), (9, 0)]) zr_188_40 (Nat.le_of_ble_eq_true rfl) rfl ?_
              have lp42_14 : ∀ (nlp42_14 : Nat) (i12 : Int) (m13 : zM), zInv m13 → zFr W_188 m0 m13 → 0 ≤ i12 → i12 ≤ 60 → (60 - i12).toNat < nlp42_14 → zW E (d) 188 42 [(2, 69), (0, a0), (0, a1), (0, i6), (0, i12), (9, 0), (9, 0)] [] m13 Q := by
                intro nlp42_14
                induction nlp42_14 with
                | zero =>
                  intros
                  exact absurd (by assumption : _ < 0) (Nat.not_lt_zero _)
                | succ nlp42_14 ihlp42_14 =>
                  intro i12 m13 hIm13 hFm13 li12 ui12 hmlp42_14
                  refine zw_4 zr_188_42 rfl ?_
                  refine zw_7 zr_188_44 rfl ?_
                  refine zw_C zr_188_45 (Or.inl rfl) zm_142 rfl rfl ⟨Nat.le_of_ble_eq_true rfl, Nat.le_of_ble_eq_true rfl, Nat.le_of_ble_eq_true rfl, rfl, by decide⟩ (by omega) (P := (fun v m' => zW E (d) 188 48 [(2, 69), (0, a0), (0, a1), (0, i6), (0, i12), (9, 0), (9, 0)] (if v.1 = 9 then [(0, i12)] else v :: [(0, i12)]) m' Q)) ?_ (fun _ _ h => h)
                  generalize hQ1 : (fun v m' => zW E (d) 188 48 [(2, 69), (0, a0), (0, a1), (0, i6), (0, i12), (9, 0), (9, 0)] (if v.1 = 9 then [(0, i12)] else v :: [(0, i12)]) m' Q) = Q1
                  show zW E (d - 1) 142 0 [(2, 69)] [] m13 Q1
                  refine zw_7 zr_142_0 rfl ?_
                  refine zw_46r (s := 70) zr_142_1 rfl rfl rfl rfl ?_
                  refine zw_push zr_142_4 ?_
                  obtain ⟨f16, ef16⟩ : ∃ v, m13 70 823 = v := ⟨_, rfl⟩
                  have bf16 : 0 ≤ m13 70 823 ∧ m13 70 823 ≤ 60 := ib_70_meetings hIm13 (by omega)
                  rw [ef16] at bf16
                  refine zw_48k (c := 70) (len := 826) zr_142_7 rfl rfl (by omega) (by omega) (show (823 : Int).toNat = 823 by omega) ef16 ?_
                  refine zw_R zr_142_8 (by decide) zm_142 (v := (0, f16)) rfl ?_
                  rw [← hQ1]
                  show zW E (d) 188 48 [(2, 69), (0, a0), (0, a1), (0, i6), (0, i12), (9, 0), (9, 0)] [(0, f16), (0, i12)] m13 Q
                  refine zw_41_3 zr_188_48 ?_ ?_
                  · intro h17
                    refine zw_15 (c := 1) (L' := [(2, 69), (0, a0), (0, a1), (0, (i6 + 1)), (0, i12), (9, 0), (9, 0)]) zr_188_180 rfl (by decide) (by omega) rfl ?_
                    refine zw_42 zr_188_183 ?_
                    exact zw_less (L := [(2, 69), (0, a0), (0, a1), (0, (i6 + 1)), (9, 0), (9, 0), (9, 0)]) ⟨Or.inr rfl, Or.inr rfl, Or.inr rfl, Or.inr rfl, Or.inl rfl, Or.inl rfl, Or.inl rfl, trivial⟩ (ihlp33_8 ((i6 + 1)) m13 hIm13 hFm13   (by omega) (by omega) (by omega))
                  · intro h18
                    refine zw_7 zr_188_51 rfl ?_
                    refine zw_4 zr_188_52 rfl ?_
                    refine zw_C zr_188_54 (Or.inl rfl) zm_181 rfl rfl ⟨Nat.le_of_ble_eq_true rfl, Nat.le_of_ble_eq_true rfl, Nat.le_of_ble_eq_true rfl, rfl, by decide⟩ (by omega) (P := (fun v m' => zW E (d) 188 57 [(2, 69), (0, a0), (0, a1), (0, i6), (0, i12), (9, 0), (9, 0)] (if v.1 = 9 then [] else v :: []) m' Q)) ?_ (fun _ _ h => h)
                    generalize hQ1 : (fun v m' => zW E (d) 188 57 [(2, 69), (0, a0), (0, a1), (0, i6), (0, i12), (9, 0), (9, 0)] (if v.1 = 9 then [] else v :: []) m' Q) = Q1
                    show zW E (d - 1) 181 0 [(2, 69), (0, i12)] [] m13 Q1
                    refine zw_7 zr_181_0 rfl ?_
                    refine zw_3 zr_181_1 rfl ?_
                    refine zw_push zr_181_2 ?_
                    refine zw_C zr_181_3 (Or.inl rfl) zm_144 rfl rfl ⟨Nat.le_of_ble_eq_true rfl, Nat.le_of_ble_eq_true rfl, Nat.le_of_ble_eq_true rfl, rfl, by decide⟩ (by omega) (P := (fun v m' => zW E (d - 1) 181 6 [(2, 69), (0, i12)] (if v.1 = 9 then [] else v :: []) m' Q1)) ?_ (fun _ _ h => h)
                    generalize hQ2 : (fun v m' => zW E (d - 1) 181 6 [(2, 69), (0, i12)] (if v.1 = 9 then [] else v :: []) m' Q1) = Q2
                    show zW E (d - 1 - 1) 144 0 [(2, 69), (0, i12), (0, 4)] [] m13 Q2
                    refine zw_7 zr_144_0 rfl ?_
                    refine zw_46r (s := 70) zr_144_1 rfl rfl rfl rfl ?_
                    refine zw_push zr_144_4 ?_
                    refine zw_push zr_144_6 ?_
                    refine zw_3 zr_144_8 rfl ?_
                    refine zw_18 zr_144_9 (by omega) ?_
                    refine zw_16 zr_144_10 (by omega) ?_
                    refine zw_3 zr_144_11 rfl ?_
                    refine zw_16 zr_144_12 (by omega) ?_
                    refine zw_48 (c := 70) (len := 826) zr_144_13 rfl rfl (by omega) (by omega) ?_
                    intro x19 ex19
                    have bx19 := ib_70_m4 hIm13 (k := (((90 + (6 * i12)) + 4)).toNat) (by omega)
                    rw [← ex19] at bx19
                    clear ex19
                    refine zw_R zr_144_14 (by decide) zm_144 (v := (0, x19)) rfl ?_
                    rw [← hQ2]
                    show zW E (d - 1) 181 6 [(2, 69), (0, i12)] [(0, x19)] m13 Q1
                    refine zw_40_4 zr_181_6 ?_ ?_
                    · intro h20
                      refine zw_push zr_181_22 ?_
                      refine zw_R zr_181_23 (by decide) zm_181 (v := (0, 0)) (zRetB (by omega)) ?_
                      rw [← hQ1]
                      show zW E (d) 188 57 [(2, 69), (0, a0), (0, a1), (0, i6), (0, i12), (9, 0), (9, 0)] [(0, 0)] m13 Q
                      refine zw_40_1 zr_188_57 ?_ ?_
                      · intro h21
                        refine zw_15 (c := 1) (L' := [(2, 69), (0, a0), (0, a1), (0, i6), (0, (i12 + 1)), (9, 0), (9, 0)]) zr_188_174 rfl (by decide) (by omega) rfl ?_
                        refine zw_42 zr_188_177 ?_
                        exact zw_less (L := [(2, 69), (0, a0), (0, a1), (0, i6), (0, (i12 + 1)), (9, 0), (9, 0)]) ⟨Or.inr rfl, Or.inr rfl, Or.inr rfl, Or.inr rfl, Or.inr rfl, Or.inl rfl, Or.inl rfl, trivial⟩ (ihlp42_14 ((i12 + 1)) m13 hIm13 hFm13   (by omega) (by omega) (by omega))
                      · intro h22; omega
                    · intro h23
                      refine zw_7 zr_181_9 rfl ?_
                      refine zw_3 zr_181_10 rfl ?_
                      refine zw_push zr_181_11 ?_
                      refine zw_C zr_181_12 (Or.inl rfl) zm_144 rfl rfl ⟨Nat.le_of_ble_eq_true rfl, Nat.le_of_ble_eq_true rfl, Nat.le_of_ble_eq_true rfl, rfl, by decide⟩ (by omega) (P := (fun v m' => zW E (d - 1) 181 15 [(2, 69), (0, i12)] (if v.1 = 9 then [] else v :: []) m' Q1)) ?_ (fun _ _ h => h)
                      generalize hQ2 : (fun v m' => zW E (d - 1) 181 15 [(2, 69), (0, i12)] (if v.1 = 9 then [] else v :: []) m' Q1) = Q2
                      show zW E (d - 1 - 1) 144 0 [(2, 69), (0, i12), (0, 5)] [] m13 Q2
                      refine zw_7 zr_144_0 rfl ?_
                      refine zw_46r (s := 70) zr_144_1 rfl rfl rfl rfl ?_
                      refine zw_push zr_144_4 ?_
                      refine zw_push zr_144_6 ?_
                      refine zw_3 zr_144_8 rfl ?_
                      refine zw_18 zr_144_9 (by omega) ?_
                      refine zw_16 zr_144_10 (by omega) ?_
                      refine zw_3 zr_144_11 rfl ?_
                      refine zw_16 zr_144_12 (by omega) ?_
                      refine zw_48 (c := 70) (len := 826) zr_144_13 rfl rfl (by omega) (by omega) ?_
                      intro x24 ex24
                      have bx24 := ib_70_m5 hIm13 (k := (((90 + (6 * i12)) + 5)).toNat) (by omega)
                      rw [← ex24] at bx24
                      clear ex24
                      refine zw_R zr_144_14 (by decide) zm_144 (v := (0, x24)) rfl ?_
                      rw [← hQ2]
                      show zW E (d - 1) 181 15 [(2, 69), (0, i12)] [(0, x24)] m13 Q1
                      refine zw_40_4 zr_181_15 ?_ ?_
                      · intro h25
                        refine zw_push zr_181_22 ?_
                        refine zw_R zr_181_23 (by decide) zm_181 (v := (0, 0)) (zRetB (by omega)) ?_
                        rw [← hQ1]
                        show zW E (d) 188 57 [(2, 69), (0, a0), (0, a1), (0, i6), (0, i12), (9, 0), (9, 0)] [(0, 0)] m13 Q
                        refine zw_40_1 zr_188_57 ?_ ?_
                        · intro h26
                          refine zw_15 (c := 1) (L' := [(2, 69), (0, a0), (0, a1), (0, i6), (0, (i12 + 1)), (9, 0), (9, 0)]) zr_188_174 rfl (by decide) (by omega) rfl ?_
                          refine zw_42 zr_188_177 ?_
                          exact zw_less (L := [(2, 69), (0, a0), (0, a1), (0, i6), (0, (i12 + 1)), (9, 0), (9, 0)]) ⟨Or.inr rfl, Or.inr rfl, Or.inr rfl, Or.inr rfl, Or.inr rfl, Or.inl rfl, Or.inl rfl, trivial⟩ (ihlp42_14 ((i12 + 1)) m13 hIm13 hFm13   (by omega) (by omega) (by omega))
                        · intro h27; omega
                      · intro h28
                        refine zw_push zr_181_18 ?_
                        refine zw_42 zr_181_19 ?_
                        refine zw_R zr_181_23 (by decide) zm_181 (v := (0, 1)) (zRetB (by omega)) ?_
                        rw [← hQ1]
                        show zW E (d) 188 57 [(2, 69), (0, a0), (0, a1), (0, i6), (0, i12), (9, 0), (9, 0)] [(0, 1)] m13 Q
                        refine zw_40_1 zr_188_57 ?_ ?_
                        · intro h29; omega
                        · intro h30
                          refine zw_4 zr_188_60 rfl ?_
                          refine zw_3 zr_188_62 rfl ?_
                          refine zw_41_1 zr_188_63 ?_ ?_
                          · intro h31
                            refine zw_15 (c := 1) (L' := [(2, 69), (0, a0), (0, a1), (0, i6), (0, (i12 + 1)), (9, 0), (9, 0)]) zr_188_174 rfl (by decide) (by omega) rfl ?_
                            refine zw_42 zr_188_177 ?_
                            exact zw_less (L := [(2, 69), (0, a0), (0, a1), (0, i6), (0, (i12 + 1)), (9, 0), (9, 0)]) ⟨Or.inr rfl, Or.inr rfl, Or.inr rfl, Or.inr rfl, Or.inr rfl, Or.inl rfl, Or.inl rfl, trivial⟩ (ihlp42_14 ((i12 + 1)) m13 hIm13 hFm13   (by omega) (by omega) (by omega))
                          · intro h32
                            refine zw_7 zr_188_66 rfl ?_
                            refine zw_4 zr_188_67 rfl ?_
                            refine zw_push zr_188_69 ?_
                            refine zw_C zr_188_70 (Or.inl rfl) zm_144 rfl rfl ⟨Nat.le_of_ble_eq_true rfl, Nat.le_of_ble_eq_true rfl, Nat.le_of_ble_eq_true rfl, rfl, by decide⟩ (by omega) (P := (fun v m' => zW E (d) 188 73 [(2, 69), (0, a0), (0, a1), (0, i6), (0, i12), (9, 0), (9, 0)] (if v.1 = 9 then [] else v :: []) m' Q)) ?_ (fun _ _ h => h)
                            generalize hQ1 : (fun v m' => zW E (d) 188 73 [(2, 69), (0, a0), (0, a1), (0, i6), (0, i12), (9, 0), (9, 0)] (if v.1 = 9 then [] else v :: []) m' Q) = Q1
                            show zW E (d - 1) 144 0 [(2, 69), (0, i12), (0, 1)] [] m13 Q1
                            refine zw_7 zr_144_0 rfl ?_
                            refine zw_46r (s := 70) zr_144_1 rfl rfl rfl rfl ?_
                            refine zw_push zr_144_4 ?_
                            refine zw_push zr_144_6 ?_
                            refine zw_3 zr_144_8 rfl ?_
                            refine zw_18 zr_144_9 (by omega) ?_
                            refine zw_16 zr_144_10 (by omega) ?_
                            refine zw_3 zr_144_11 rfl ?_
                            refine zw_16 zr_144_12 (by omega) ?_
                            refine zw_48 (c := 70) (len := 826) zr_144_13 rfl rfl (by omega) (by omega) ?_
                            intro x33 ex33
                            have bx33 := ib_70_m1 hIm13 (k := (((90 + (6 * i12)) + 1)).toNat) (by omega)
                            rw [← ex33] at bx33
                            clear ex33
                            refine zw_R zr_144_14 (by decide) zm_144 (v := (0, x33)) rfl ?_
                            rw [← hQ1]
                            show zW E (d) 188 73 [(2, 69), (0, a0), (0, a1), (0, i6), (0, i12), (9, 0), (9, 0)] [(0, x33)] m13 Q
                            refine zw_10 (L' := [(2, 69), (0, a0), (0, a1), (0, i6), (0, i12), (0, x33), (9, 0)]) zr_188_73 (Nat.le_of_ble_eq_true rfl) rfl ?_
                            refine zw_7 zr_188_75 rfl ?_
                            refine zw_4 zr_188_76 rfl ?_
                            refine zw_push zr_188_78 ?_
                            refine zw_C zr_188_79 (Or.inl rfl) zm_144 rfl rfl ⟨Nat.le_of_ble_eq_true rfl, Nat.le_of_ble_eq_true rfl, Nat.le_of_ble_eq_true rfl, rfl, by decide⟩ (by omega) (P := (fun v m' => zW E (d) 188 82 [(2, 69), (0, a0), (0, a1), (0, i6), (0, i12), (0, x33), (9, 0)] (if v.1 = 9 then [] else v :: []) m' Q)) ?_ (fun _ _ h => h)
                            generalize hQ1 : (fun v m' => zW E (d) 188 82 [(2, 69), (0, a0), (0, a1), (0, i6), (0, i12), (0, x33), (9, 0)] (if v.1 = 9 then [] else v :: []) m' Q) = Q1
                            show zW E (d - 1) 144 0 [(2, 69), (0, i12), (0, 2)] [] m13 Q1
                            refine zw_7 zr_144_0 rfl ?_
                            refine zw_46r (s := 70) zr_144_1 rfl rfl rfl rfl ?_
                            refine zw_push zr_144_4 ?_
                            refine zw_push zr_144_6 ?_
                            refine zw_3 zr_144_8 rfl ?_
                            refine zw_18 zr_144_9 (by omega) ?_
                            refine zw_16 zr_144_10 (by omega) ?_
                            refine zw_3 zr_144_11 rfl ?_
                            refine zw_16 zr_144_12 (by omega) ?_
                            refine zw_48 (c := 70) (len := 826) zr_144_13 rfl rfl (by omega) (by omega) ?_
                            intro x34 ex34
                            have bx34 := ib_70_m2 hIm13 (k := (((90 + (6 * i12)) + 2)).toNat) (by omega)
                            rw [← ex34] at bx34
                            clear ex34
                            refine zw_R zr_144_14 (by decide) zm_144 (v := (0, x34)) rfl ?_
                            rw [← hQ1]
                            show zW E (d) 188 82 [(2, 69), (0, a0), (0, a1), (0, i6), (0, i12), (0, x33), (9, 0)] [(0, x34)] m13 Q
                            refine zw_10 (L' := [(2, 69), (0, a0), (0, a1), (0, i6), (0, i12), (0, x33), (0, x34)]) zr_188_82 (Nat.le_of_ble_eq_true rfl) rfl ?_
                            refine zw_7 zr_188_84 rfl ?_
                            refine zw_46r (s := 81) zr_188_85 rfl rfl rfl rfl ?_
                            refine zw_4 zr_188_88 rfl ?_
                            refine zw_7 zr_188_90 rfl ?_
                            refine zw_46r (s := 81) zr_188_91 rfl rfl rfl rfl ?_
                            refine zw_4 zr_188_94 rfl ?_
                            refine zw_48 (c := 81) (len := 10) zr_188_96 rfl rfl (by omega) (by omega) ?_
                            intro x35 ex35
                            refine zw_push zr_188_97 ?_
                            refine zw_16h zr_188_98 ?_
                            intro x36 hx36a hx36b
                            refine zw_7 zr_188_99 rfl ?_
                            refine zw_46r (s := 81) zr_188_100 rfl rfl rfl rfl ?_
                            refine zw_4 zr_188_103 rfl ?_
                            refine zw_48 (c := 81) (len := 10) zr_188_105 rfl rfl (by omega) (by omega) ?_
                            intro x37 ex37
                            refine zw_41_3 zr_188_106 ?_ ?_
                            · intro h38
                              refine zw_7 zr_188_121 rfl ?_
                              refine zw_46r (s := 81) zr_188_122 rfl rfl rfl rfl ?_
                              refine zw_4 zr_188_125 rfl ?_
                              refine zw_48k (c := 81) (len := 10) zr_188_127 rfl rfl (by omega) (by omega) rfl ex37.symm ?_
                              refine zw_49 (c := 81) (len := 10) zr_188_128 rfl rfl (by omega) (by omega) ?_
                              intro m39 em39
                              have hIm39 : zInv m39 := by rw [em39]; exact hIm13.any rfl (by decide) (by decide)
                              have hFm39 : zFr W_188 m0 m39 := by rw [em39]; exact hFm13.any rfl
                              have km39_70_823 : m39 70 823 = f16 := by rw [em39, zUp_ne (by omega)]; exact ef16
                              clear em39
                              refine zw_7 zr_188_129 rfl ?_
                              refine zw_46r (s := 81) zr_188_130 rfl rfl rfl rfl ?_
                              refine zw_4 zr_188_133 rfl ?_
                              refine zw_7 zr_188_135 rfl ?_
                              refine zw_46r (s := 81) zr_188_136 rfl rfl rfl rfl ?_
                              refine zw_4 zr_188_139 rfl ?_
                              refine zw_48 (c := 81) (len := 10) zr_188_141 rfl rfl (by omega) (by omega) ?_
                              intro x40 ex40
                              refine zw_push zr_188_142 ?_
                              refine zw_16h zr_188_143 ?_
                              intro x41 hx41a hx41b
                              refine zw_7 zr_188_144 rfl ?_
                              refine zw_46r (s := 81) zr_188_145 rfl rfl rfl rfl ?_
                              refine zw_4 zr_188_148 rfl ?_
                              refine zw_48 (c := 81) (len := 10) zr_188_150 rfl rfl (by omega) (by omega) ?_
                              intro x42 ex42
                              refine zw_41_3 zr_188_151 ?_ ?_
                              · intro h43
                                refine zw_7 zr_188_166 rfl ?_
                                refine zw_46r (s := 81) zr_188_167 rfl rfl rfl rfl ?_
                                refine zw_4 zr_188_170 rfl ?_
                                refine zw_48k (c := 81) (len := 10) zr_188_172 rfl rfl (by omega) (by omega) rfl ex42.symm ?_
                                refine zw_49 (c := 81) (len := 10) zr_188_173 rfl rfl (by omega) (by omega) ?_
                                intro m44 em44
                                have hIm44 : zInv m44 := by rw [em44]; exact hIm39.any rfl (by decide) (by decide)
                                have hFm44 : zFr W_188 m0 m44 := by rw [em44]; exact hFm39.any rfl
                                have km44_70_823 : m44 70 823 = f16 := by rw [em44, zUp_ne (by omega)]; exact km39_70_823
                                clear em44
                                refine zw_15 (c := 1) (L' := [(2, 69), (0, a0), (0, a1), (0, i6), (0, (i12 + 1)), (0, x33), (0, x34)]) zr_188_174 rfl (by decide) (by omega) rfl ?_
                                refine zw_42 zr_188_177 ?_
                                exact zw_less (L := [(2, 69), (0, a0), (0, a1), (0, i6), (0, (i12 + 1)), (9, 0), (9, 0)]) ⟨Or.inr rfl, Or.inr rfl, Or.inr rfl, Or.inr rfl, Or.inr rfl, Or.inl rfl, Or.inl rfl, trivial⟩ (ihlp42_14 ((i12 + 1)) m44 hIm44 hFm44   (by omega) (by omega) (by omega))
                              · intro h45
                                refine zw_7 zr_188_154 rfl ?_
                                refine zw_46r (s := 81) zr_188_155 rfl rfl rfl rfl ?_
                                refine zw_4 zr_188_158 rfl ?_
                                refine zw_48k (c := 81) (len := 10) zr_188_160 rfl rfl (by omega) (by omega) rfl ex40.symm ?_
                                refine zw_push zr_188_161 ?_
                                refine zw_16h zr_188_162 ?_
                                intro x46 hx46a hx46b
                                refine zw_42 zr_188_163 ?_
                                refine zw_49 (c := 81) (len := 10) zr_188_173 rfl rfl (by omega) (by omega) ?_
                                intro m47 em47
                                have hIm47 : zInv m47 := by rw [em47]; exact hIm39.any rfl (by decide) (by decide)
                                have hFm47 : zFr W_188 m0 m47 := by rw [em47]; exact hFm39.any rfl
                                have km47_70_823 : m47 70 823 = f16 := by rw [em47, zUp_ne (by omega)]; exact km39_70_823
                                clear em47
                                refine zw_15 (c := 1) (L' := [(2, 69), (0, a0), (0, a1), (0, i6), (0, (i12 + 1)), (0, x33), (0, x34)]) zr_188_174 rfl (by decide) (by omega) rfl ?_
                                refine zw_42 zr_188_177 ?_
                                exact zw_less (L := [(2, 69), (0, a0), (0, a1), (0, i6), (0, (i12 + 1)), (9, 0), (9, 0)]) ⟨Or.inr rfl, Or.inr rfl, Or.inr rfl, Or.inr rfl, Or.inr rfl, Or.inl rfl, Or.inl rfl, trivial⟩ (ihlp42_14 ((i12 + 1)) m47 hIm47 hFm47   (by omega) (by omega) (by omega))
                            · intro h48
                              refine zw_7 zr_188_109 rfl ?_
                              refine zw_46r (s := 81) zr_188_110 rfl rfl rfl rfl ?_
                              refine zw_4 zr_188_113 rfl ?_
                              refine zw_48k (c := 81) (len := 10) zr_188_115 rfl rfl (by omega) (by omega) rfl ex35.symm ?_
                              refine zw_push zr_188_116 ?_
                              refine zw_16h zr_188_117 ?_
                              intro x49 hx49a hx49b
                              refine zw_42 zr_188_118 ?_
                              refine zw_49 (c := 81) (len := 10) zr_188_128 rfl rfl (by omega) (by omega) ?_
                              intro m50 em50
                              have hIm50 : zInv m50 := by rw [em50]; exact hIm13.any rfl (by decide) (by decide)
                              have hFm50 : zFr W_188 m0 m50 := by rw [em50]; exact hFm13.any rfl
                              have km50_70_823 : m50 70 823 = f16 := by rw [em50, zUp_ne (by omega)]; exact ef16
                              clear em50
                              refine zw_7 zr_188_129 rfl ?_
                              refine zw_46r (s := 81) zr_188_130 rfl rfl rfl rfl ?_
                              refine zw_4 zr_188_133 rfl ?_
                              refine zw_7 zr_188_135 rfl ?_
                              refine zw_46r (s := 81) zr_188_136 rfl rfl rfl rfl ?_
                              refine zw_4 zr_188_139 rfl ?_
                              refine zw_48 (c := 81) (len := 10) zr_188_141 rfl rfl (by omega) (by omega) ?_
                              intro x51 ex51
                              refine zw_push zr_188_142 ?_
                              refine zw_16h zr_188_143 ?_
                              intro x52 hx52a hx52b
                              refine zw_7 zr_188_144 rfl ?_
                              refine zw_46r (s := 81) zr_188_145 rfl rfl rfl rfl ?_
                              refine zw_4 zr_188_148 rfl ?_
                              refine zw_48 (c := 81) (len := 10) zr_188_150 rfl rfl (by omega) (by omega) ?_
                              intro x53 ex53
                              refine zw_41_3 zr_188_151 ?_ ?_
                              · intro h54
                                refine zw_7 zr_188_166 rfl ?_
                                refine zw_46r (s := 81) zr_188_167 rfl rfl rfl rfl ?_
                                refine zw_4 zr_188_170 rfl ?_
                                refine zw_48k (c := 81) (len := 10) zr_188_172 rfl rfl (by omega) (by omega) rfl ex53.symm ?_
                                refine zw_49 (c := 81) (len := 10) zr_188_173 rfl rfl (by omega) (by omega) ?_
                                intro m55 em55
                                have hIm55 : zInv m55 := by rw [em55]; exact hIm50.any rfl (by decide) (by decide)
                                have hFm55 : zFr W_188 m0 m55 := by rw [em55]; exact hFm50.any rfl
                                have km55_70_823 : m55 70 823 = f16 := by rw [em55, zUp_ne (by omega)]; exact km50_70_823
                                clear em55
                                refine zw_15 (c := 1) (L' := [(2, 69), (0, a0), (0, a1), (0, i6), (0, (i12 + 1)), (0, x33), (0, x34)]) zr_188_174 rfl (by decide) (by omega) rfl ?_
                                refine zw_42 zr_188_177 ?_
                                exact zw_less (L := [(2, 69), (0, a0), (0, a1), (0, i6), (0, (i12 + 1)), (9, 0), (9, 0)]) ⟨Or.inr rfl, Or.inr rfl, Or.inr rfl, Or.inr rfl, Or.inr rfl, Or.inl rfl, Or.inl rfl, trivial⟩ (ihlp42_14 ((i12 + 1)) m55 hIm55 hFm55   (by omega) (by omega) (by omega))
                              · intro h56
                                refine zw_7 zr_188_154 rfl ?_
                                refine zw_46r (s := 81) zr_188_155 rfl rfl rfl rfl ?_
                                refine zw_4 zr_188_158 rfl ?_
                                refine zw_48k (c := 81) (len := 10) zr_188_160 rfl rfl (by omega) (by omega) rfl ex51.symm ?_
                                refine zw_push zr_188_161 ?_
                                refine zw_16h zr_188_162 ?_
                                intro x57 hx57a hx57b
                                refine zw_42 zr_188_163 ?_
                                refine zw_49 (c := 81) (len := 10) zr_188_173 rfl rfl (by omega) (by omega) ?_
                                intro m58 em58
                                have hIm58 : zInv m58 := by rw [em58]; exact hIm50.any rfl (by decide) (by decide)
                                have hFm58 : zFr W_188 m0 m58 := by rw [em58]; exact hFm50.any rfl
                                have km58_70_823 : m58 70 823 = f16 := by rw [em58, zUp_ne (by omega)]; exact km50_70_823
                                clear em58
                                refine zw_15 (c := 1) (L' := [(2, 69), (0, a0), (0, a1), (0, i6), (0, (i12 + 1)), (0, x33), (0, x34)]) zr_188_174 rfl (by decide) (by omega) rfl ?_
                                refine zw_42 zr_188_177 ?_
                                exact zw_less (L := [(2, 69), (0, a0), (0, a1), (0, i6), (0, (i12 + 1)), (9, 0), (9, 0)]) ⟨Or.inr rfl, Or.inr rfl, Or.inr rfl, Or.inr rfl, Or.inr rfl, Or.inl rfl, Or.inl rfl, trivial⟩ (ihlp42_14 ((i12 + 1)) m58 hIm58 hFm58   (by omega) (by omega) (by omega))
              exact lp42_14 _ (0) m7 hIm7 hFm7   (by omega) (by omega) (Nat.lt_succ_self _)
        exact lp33_8 _ (0) m2 hIm2 hFm2   (by omega) (by omega) (Nat.lt_succ_self _)
      · intro h59
        refine zw_7 zr_188_8 rfl ?_
        refine zw_46r (s := 81) zr_188_9 rfl rfl rfl rfl ?_
        refine zw_3 zr_188_12 rfl ?_
        refine zw_3 zr_188_13 rfl ?_
        refine zw_3 zr_188_14 rfl ?_
        refine zw_41_4 zr_188_15 ?_ ?_
        · intro h60
          refine zw_push zr_188_22 ?_
          refine zw_49 (c := 81) (len := 10) zr_188_24 rfl rfl (by omega) (by omega) ?_
          intro m61 em61
          have hIm61 : zInv m61 := by rw [em61]; exact hIm2.any rfl (by decide) (by decide)
          have hFm61 : zFr W_188 m0 m61 := by rw [em61]; exact hFm2.any rfl
          clear em61
          refine zw_15 (c := 1) (L' := [(2, 69), (0, a0), (0, a1), (0, (i1 + 1)), (9, 0), (9, 0), (9, 0)]) zr_188_25 rfl (by decide) (by omega) rfl ?_
          refine zw_42 zr_188_28 ?_
          exact zw_less (L := [(2, 69), (0, a0), (0, a1), (0, (i1 + 1)), (9, 0), (9, 0), (9, 0)]) ⟨Or.inr rfl, Or.inr rfl, Or.inr rfl, Or.inr rfl, Or.inl rfl, Or.inl rfl, Or.inl rfl, trivial⟩ (ihlp2_3 ((i1 + 1)) m61 hIm61 hFm61   (by omega) (by omega) (by omega))
        · intro h62
          refine zw_push zr_188_18 ?_
          refine zw_42 zr_188_19 ?_
          refine zw_49 (c := 81) (len := 10) zr_188_24 rfl rfl (by omega) (by omega) ?_
          intro m63 em63
          have hIm63 : zInv m63 := by rw [em63]; exact hIm2.any rfl (by decide) (by decide)
          have hFm63 : zFr W_188 m0 m63 := by rw [em63]; exact hFm2.any rfl
          clear em63
          refine zw_15 (c := 1) (L' := [(2, 69), (0, a0), (0, a1), (0, (i1 + 1)), (9, 0), (9, 0), (9, 0)]) zr_188_25 rfl (by decide) (by omega) rfl ?_
          refine zw_42 zr_188_28 ?_
          exact zw_less (L := [(2, 69), (0, a0), (0, a1), (0, (i1 + 1)), (9, 0), (9, 0), (9, 0)]) ⟨Or.inr rfl, Or.inr rfl, Or.inr rfl, Or.inr rfl, Or.inl rfl, Or.inl rfl, Or.inl rfl, trivial⟩ (ihlp2_3 ((i1 + 1)) m63 hIm63 hFm63   (by omega) (by omega) (by omega))
  exact lp2_3 _ (0) m0 hI0 hF0   (by omega) (by omega) (Nat.lt_succ_self _)

abbrev W_191 : List (Nat × Nat) := [(81, 1000)]
set_option maxHeartbeats 8000000 in
theorem th_191 {E : zE} {d : Nat} {m0 : zM} (hd : 4 ≤ d) (hI0 : zInv m0) {a0 : Int} {a1 : Int} {a2 : Int} (ha0 : (-2147483648) ≤ a0 ∧ a0 ≤ 2147483647) (ha1 : (-2147483648) ≤ a1 ∧ a1 ≤ 2147483647) (ha2 : (-2147483648) ≤ a2 ∧ a2 ≤ 2147483647) : zC E d 191 [(2, 69), (0, a0), (0, a1), (0, a2)] m0 (fun v m' => ∃ r : Int, v = (0, r) ∧ (-2147483648) ≤ r ∧ r ≤ 99999999 ∧ zInv m' ∧ zFr W_191 m0 m') := by
  have hF0 : zFr W_191 m0 m0 := zFr.rfl
  generalize hQ : (fun (v : zV) (m' : zM) => ∃ r : Int, v = (0, r) ∧ (-2147483648) ≤ r ∧ r ≤ 99999999 ∧ zInv m' ∧ zFr W_191 m0 m') = Q
  show zW E d 191 0 [(2, 69), (0, a0), (0, a1), (0, a2), (9, 0), (9, 0), (9, 0), (9, 0), (9, 0), (9, 0)] [] m0 Q
  refine zw_7 zr_191_0 rfl ?_
  refine zw_3 zr_191_1 rfl ?_
  refine zw_C zr_191_2 (Or.inl rfl) zm_143 rfl rfl ⟨Nat.le_of_ble_eq_true rfl, Nat.le_of_ble_eq_true rfl, Nat.le_of_ble_eq_true rfl, rfl, by decide⟩ (by omega) (P := (fun v m' => zW E (d) 191 5 [(2, 69), (0, a0), (0, a1), (0, a2), (9, 0), (9, 0), (9, 0), (9, 0), (9, 0), (9, 0)] (if v.1 = 9 then [] else v :: []) m' Q)) ?_ (fun _ _ h => h)
  generalize hQ1 : (fun v m' => zW E (d) 191 5 [(2, 69), (0, a0), (0, a1), (0, a2), (9, 0), (9, 0), (9, 0), (9, 0), (9, 0), (9, 0)] (if v.1 = 9 then [] else v :: []) m' Q) = Q1
  show zW E (d - 1) 143 0 [(2, 69), (0, a0)] [] m0 Q1
  refine zw_3 zr_143_0 rfl ?_
  refine zw_36 zr_143_1 ?_
  refine zw_push zr_143_2 ?_
  refine zw_7 zr_143_3 rfl ?_
  refine zw_C zr_143_4 (Or.inl rfl) zm_141 rfl rfl ⟨Nat.le_of_ble_eq_true rfl, Nat.le_of_ble_eq_true rfl, Nat.le_of_ble_eq_true rfl, rfl, by decide⟩ (by omega) (P := (fun v m' => zW E (d - 1) 143 7 [(2, 69), (0, a0)] (if v.1 = 9 then [(1, 0), (1, a0)] else v :: [(1, 0), (1, a0)]) m' Q1)) ?_ (fun _ _ h => h)
  generalize hQ2 : (fun v m' => zW E (d - 1) 143 7 [(2, 69), (0, a0)] (if v.1 = 9 then [(1, 0), (1, a0)] else v :: [(1, 0), (1, a0)]) m' Q1) = Q2
  show zW E (d - 1 - 1) 141 0 [(2, 69)] [] m0 Q2
  refine zw_7 zr_141_0 rfl ?_
  refine zw_46r (s := 70) zr_141_1 rfl rfl rfl rfl ?_
  refine zw_push zr_141_4 ?_
  obtain ⟨f1, ef1⟩ : ∃ v, m0 70 822 = v := ⟨_, rfl⟩
  have bf1 : 0 ≤ m0 70 822 ∧ m0 70 822 ≤ 10 := ib_70_players hI0 (by omega)
  rw [ef1] at bf1
  refine zw_48k (c := 70) (len := 826) zr_141_7 rfl rfl (by omega) (by omega) (show (822 : Int).toNat = 822 by omega) ef1 ?_
  refine zw_R zr_141_8 (by decide) zm_141 (v := (0, f1)) rfl ?_
  rw [← hQ2]
  show zW E (d - 1) 143 7 [(2, 69), (0, a0)] [(0, f1), (1, 0), (1, a0)] m0 Q1
  refine zw_push zr_143_7 ?_
  refine zw_17 zr_143_8 (by omega) ?_
  refine zw_36 zr_143_9 ?_
  refine zw_C zr_143_10 (Or.inr rfl) zm_140 rfl rfl ⟨Nat.le_of_ble_eq_true rfl, Nat.le_of_ble_eq_true rfl, Nat.le_of_ble_eq_true rfl, rfl, by decide⟩ (by omega) (P := (fun v m' => zW E (d - 1) 143 13 [(2, 69), (0, a0)] (if v.1 = 9 then [] else v :: []) m' Q1)) ?_ (fun _ _ h => h)
  generalize hQ2 : (fun v m' => zW E (d - 1) 143 13 [(2, 69), (0, a0)] (if v.1 = 9 then [] else v :: []) m' Q1) = Q2
  show zW E (d - 1 - 1) 140 0 [(1, a0), (9, 0), (1, 0), (9, 0), (1, (f1 - 1)), (9, 0)] [] m0 Q2
  refine zw_5 zr_140_0 rfl ?_
  refine zw_5 zr_140_1 rfl ?_
  refine zw_39_0 zr_140_2 zr_140_3 ?_ ?_
  · intro h2
    refine zw_push zr_140_17 ?_
    refine zw_R zr_140_18 (by decide) zm_140 (v := (0, 0)) (zRetB (by omega)) ?_
    rw [← hQ2]
    show zW E (d - 1) 143 13 [(2, 69), (0, a0)] [(0, 0)] m0 Q1
    refine zw_R zr_143_13 (by decide) zm_143 (v := (0, 0)) (zRetB (by omega)) ?_
    rw [← hQ1]
    show zW E (d) 191 5 [(2, 69), (0, a0), (0, a1), (0, a2), (9, 0), (9, 0), (9, 0), (9, 0), (9, 0), (9, 0)] [(0, 0)] m0 Q
    refine zw_40_1 zr_191_5 ?_ ?_
    · intro h3
      refine zw_push zr_191_21 ?_
      refine zw_R zr_191_23 (by decide) zm_191 (v := (0, (-10))) rfl ?_
      rw [← hQ]; exact ⟨_, rfl, by omega, by omega, hI0, hF0⟩
    · intro h4; omega
  · intro h5
    refine zw_5 zr_140_6 rfl ?_
    refine zw_6 zr_140_7 rfl ?_
    refine zw_39_2 zr_140_9 zr_140_10 ?_ ?_
    · intro h6
      refine zw_push zr_140_17 ?_
      refine zw_R zr_140_18 (by decide) zm_140 (v := (0, 0)) (zRetB (by omega)) ?_
      rw [← hQ2]
      show zW E (d - 1) 143 13 [(2, 69), (0, a0)] [(0, 0)] m0 Q1
      refine zw_R zr_143_13 (by decide) zm_143 (v := (0, 0)) (zRetB (by omega)) ?_
      rw [← hQ1]
      show zW E (d) 191 5 [(2, 69), (0, a0), (0, a1), (0, a2), (9, 0), (9, 0), (9, 0), (9, 0), (9, 0), (9, 0)] [(0, 0)] m0 Q
      refine zw_40_1 zr_191_5 ?_ ?_
      · intro h7
        refine zw_push zr_191_21 ?_
        refine zw_R zr_191_23 (by decide) zm_191 (v := (0, (-10))) rfl ?_
        rw [← hQ]; exact ⟨_, rfl, by omega, by omega, hI0, hF0⟩
      · intro h8; omega
    · intro h9
      refine zw_push zr_140_13 ?_
      refine zw_42 zr_140_14 ?_
      refine zw_R zr_140_18 (by decide) zm_140 (v := (0, 1)) (zRetB (by omega)) ?_
      rw [← hQ2]
      show zW E (d - 1) 143 13 [(2, 69), (0, a0)] [(0, 1)] m0 Q1
      refine zw_R zr_143_13 (by decide) zm_143 (v := (0, 1)) (zRetB (by omega)) ?_
      rw [← hQ1]
      show zW E (d) 191 5 [(2, 69), (0, a0), (0, a1), (0, a2), (9, 0), (9, 0), (9, 0), (9, 0), (9, 0), (9, 0)] [(0, 1)] m0 Q
      refine zw_40_1 zr_191_5 ?_ ?_
      · intro h10; omega
      · intro h11
        refine zw_7 zr_191_8 rfl ?_
        refine zw_3 zr_191_9 rfl ?_
        refine zw_C zr_191_10 (Or.inl rfl) zm_143 rfl rfl ⟨Nat.le_of_ble_eq_true rfl, Nat.le_of_ble_eq_true rfl, Nat.le_of_ble_eq_true rfl, rfl, by decide⟩ (by omega) (P := (fun v m' => zW E (d) 191 13 [(2, 69), (0, a0), (0, a1), (0, a2), (9, 0), (9, 0), (9, 0), (9, 0), (9, 0), (9, 0)] (if v.1 = 9 then [] else v :: []) m' Q)) ?_ (fun _ _ h => h)
        generalize hQ1 : (fun v m' => zW E (d) 191 13 [(2, 69), (0, a0), (0, a1), (0, a2), (9, 0), (9, 0), (9, 0), (9, 0), (9, 0), (9, 0)] (if v.1 = 9 then [] else v :: []) m' Q) = Q1
        show zW E (d - 1) 143 0 [(2, 69), (0, a1)] [] m0 Q1
        refine zw_3 zr_143_0 rfl ?_
        refine zw_36 zr_143_1 ?_
        refine zw_push zr_143_2 ?_
        refine zw_7 zr_143_3 rfl ?_
        refine zw_C zr_143_4 (Or.inl rfl) zm_141 rfl rfl ⟨Nat.le_of_ble_eq_true rfl, Nat.le_of_ble_eq_true rfl, Nat.le_of_ble_eq_true rfl, rfl, by decide⟩ (by omega) (P := (fun v m' => zW E (d - 1) 143 7 [(2, 69), (0, a1)] (if v.1 = 9 then [(1, 0), (1, a1)] else v :: [(1, 0), (1, a1)]) m' Q1)) ?_ (fun _ _ h => h)
        generalize hQ2 : (fun v m' => zW E (d - 1) 143 7 [(2, 69), (0, a1)] (if v.1 = 9 then [(1, 0), (1, a1)] else v :: [(1, 0), (1, a1)]) m' Q1) = Q2
        show zW E (d - 1 - 1) 141 0 [(2, 69)] [] m0 Q2
        refine zw_7 zr_141_0 rfl ?_
        refine zw_46r (s := 70) zr_141_1 rfl rfl rfl rfl ?_
        refine zw_push zr_141_4 ?_
        refine zw_48k (c := 70) (len := 826) zr_141_7 rfl rfl (by omega) (by omega) (show (822 : Int).toNat = 822 by omega) ef1 ?_
        refine zw_R zr_141_8 (by decide) zm_141 (v := (0, f1)) rfl ?_
        rw [← hQ2]
        show zW E (d - 1) 143 7 [(2, 69), (0, a1)] [(0, f1), (1, 0), (1, a1)] m0 Q1
        refine zw_push zr_143_7 ?_
        refine zw_17 zr_143_8 (by omega) ?_
        refine zw_36 zr_143_9 ?_
        refine zw_C zr_143_10 (Or.inr rfl) zm_140 rfl rfl ⟨Nat.le_of_ble_eq_true rfl, Nat.le_of_ble_eq_true rfl, Nat.le_of_ble_eq_true rfl, rfl, by decide⟩ (by omega) (P := (fun v m' => zW E (d - 1) 143 13 [(2, 69), (0, a1)] (if v.1 = 9 then [] else v :: []) m' Q1)) ?_ (fun _ _ h => h)
        generalize hQ2 : (fun v m' => zW E (d - 1) 143 13 [(2, 69), (0, a1)] (if v.1 = 9 then [] else v :: []) m' Q1) = Q2
        show zW E (d - 1 - 1) 140 0 [(1, a1), (9, 0), (1, 0), (9, 0), (1, (f1 - 1)), (9, 0)] [] m0 Q2
        refine zw_5 zr_140_0 rfl ?_
        refine zw_5 zr_140_1 rfl ?_
        refine zw_39_0 zr_140_2 zr_140_3 ?_ ?_
        · intro h12
          refine zw_push zr_140_17 ?_
          refine zw_R zr_140_18 (by decide) zm_140 (v := (0, 0)) (zRetB (by omega)) ?_
          rw [← hQ2]
          show zW E (d - 1) 143 13 [(2, 69), (0, a1)] [(0, 0)] m0 Q1
          refine zw_R zr_143_13 (by decide) zm_143 (v := (0, 0)) (zRetB (by omega)) ?_
          rw [← hQ1]
          show zW E (d) 191 13 [(2, 69), (0, a0), (0, a1), (0, a2), (9, 0), (9, 0), (9, 0), (9, 0), (9, 0), (9, 0)] [(0, 0)] m0 Q
          refine zw_40_1 zr_191_13 ?_ ?_
          · intro h13
            refine zw_push zr_191_21 ?_
            refine zw_R zr_191_23 (by decide) zm_191 (v := (0, (-10))) rfl ?_
            rw [← hQ]; exact ⟨_, rfl, by omega, by omega, hI0, hF0⟩
          · intro h14; omega
        · intro h15
          refine zw_5 zr_140_6 rfl ?_
          refine zw_6 zr_140_7 rfl ?_
          refine zw_39_2 zr_140_9 zr_140_10 ?_ ?_
          · intro h16
            refine zw_push zr_140_17 ?_
            refine zw_R zr_140_18 (by decide) zm_140 (v := (0, 0)) (zRetB (by omega)) ?_
            rw [← hQ2]
            show zW E (d - 1) 143 13 [(2, 69), (0, a1)] [(0, 0)] m0 Q1
            refine zw_R zr_143_13 (by decide) zm_143 (v := (0, 0)) (zRetB (by omega)) ?_
            rw [← hQ1]
            show zW E (d) 191 13 [(2, 69), (0, a0), (0, a1), (0, a2), (9, 0), (9, 0), (9, 0), (9, 0), (9, 0), (9, 0)] [(0, 0)] m0 Q
            refine zw_40_1 zr_191_13 ?_ ?_
            · intro h17
              refine zw_push zr_191_21 ?_
              refine zw_R zr_191_23 (by decide) zm_191 (v := (0, (-10))) rfl ?_
              rw [← hQ]; exact ⟨_, rfl, by omega, by omega, hI0, hF0⟩
            · intro h18; omega
          · intro h19
            refine zw_push zr_140_13 ?_
            refine zw_42 zr_140_14 ?_
            refine zw_R zr_140_18 (by decide) zm_140 (v := (0, 1)) (zRetB (by omega)) ?_
            rw [← hQ2]
            show zW E (d - 1) 143 13 [(2, 69), (0, a1)] [(0, 1)] m0 Q1
            refine zw_R zr_143_13 (by decide) zm_143 (v := (0, 1)) (zRetB (by omega)) ?_
            rw [← hQ1]
            show zW E (d) 191 13 [(2, 69), (0, a0), (0, a1), (0, a2), (9, 0), (9, 0), (9, 0), (9, 0), (9, 0), (9, 0)] [(0, 1)] m0 Q
            refine zw_40_1 zr_191_13 ?_ ?_
            · intro h20; omega
            · intro h21
              refine zw_3 zr_191_16 rfl ?_
              refine zw_push zr_191_17 ?_
              refine zw_41_3 zr_191_18 ?_ ?_
              · intro h22
                refine zw_7 zr_191_24 rfl ?_
                refine zw_3 zr_191_25 rfl ?_
                refine zw_push zr_191_26 ?_
                refine zw_C zr_191_27 (Or.inl rfl) zm_188 rfl rfl ⟨Nat.le_of_ble_eq_true rfl, Nat.le_of_ble_eq_true rfl, Nat.le_of_ble_eq_true rfl, rfl, by decide⟩ (by omega) (th_188 (d := d - 1) (by omega) hI0 (a0 := a1) (a1 := (-1)) (by omega) (by omega)) ?_
                rintro _ m23 ⟨rfl, hIm23, gm23⟩
                have hFm23 : zFr W_191 m0 m23 := hF0.trans gm23 rfl
                have km23_70_822 : m23 70 822 = f1 := (gm23 70 822 rfl).trans ef1
                show zW E (d) 191 30 [(2, 69), (0, a0), (0, a1), (0, a2), (9, 0), (9, 0), (9, 0), (9, 0), (9, 0), (9, 0)] [] m23 Q
                refine zw_7 zr_191_30 rfl ?_
                refine zw_46r (s := 81) zr_191_31 rfl rfl rfl rfl ?_
                refine zw_3 zr_191_34 rfl ?_
                refine zw_48 (c := 81) (len := 10) zr_191_35 rfl rfl (by omega) (by omega) ?_
                intro x24 ex24
                refine zw_push zr_191_36 ?_
                refine zw_41_0 zr_191_38 ?_ ?_
                · intro h25
                  refine zw_3 zr_191_44 rfl ?_
                  refine zw_push zr_191_45 ?_
                  refine zw_41_4 zr_191_46 ?_ ?_
                  · intro h26
                    refine zw_3 zr_191_56 rfl ?_
                    refine zw_7 zr_191_57 rfl ?_
                    refine zw_46r (s := 81) zr_191_58 rfl rfl rfl rfl ?_
                    refine zw_3 zr_191_61 rfl ?_
                    refine zw_48k (c := 81) (len := 10) zr_191_62 rfl rfl (by omega) (by omega) rfl ex24.symm ?_
                    refine zw_41_0 zr_191_63 ?_ ?_
                    · intro h27
                      refine zw_3 zr_191_69 rfl ?_
                      refine zw_10 (L' := [(2, 69), (0, a0), (0, a1), (0, a2), (0, a0), (9, 0), (9, 0), (9, 0), (9, 0), (9, 0)]) zr_191_70 (Nat.le_of_ble_eq_true rfl) rfl ?_
                      refine zw_push zr_191_72 ?_
                      refine zw_10 (L' := [(2, 69), (0, a0), (0, a1), (0, a2), (0, a0), (0, (-1)), (9, 0), (9, 0), (9, 0), (9, 0)]) zr_191_73 (Nat.le_of_ble_eq_true rfl) rfl ?_
                      refine zw_push zr_191_75 ?_
                      refine zw_10 (L' := [(2, 69), (0, a0), (0, a1), (0, a2), (0, a0), (0, (-1)), (0, 0), (9, 0), (9, 0), (9, 0)]) zr_191_76 (Nat.le_of_ble_eq_true rfl) rfl ?_
                      have lp78_31 : ∀ (nlp78_31 : Nat) (i28 i29 i30 : Int), (-1) ≤ i28 → i28 ≤ 9 → (-1) ≤ i29 → i29 ≤ 59 → 0 ≤ i30 → i30 ≤ 2147483647 → (2147483647 - i30).toNat < nlp78_31 → zW E (d) 191 78 [(2, 69), (0, a0), (0, a1), (0, a2), (0, i28), (0, i29), (0, i30), (9, 0), (9, 0), (9, 0)] [] m23 Q := by
                        intro nlp78_31
                        induction nlp78_31 with
                        | zero =>
                          intros
                          exact absurd (by assumption : _ < 0) (Nat.not_lt_zero _)
                        | succ nlp78_31 ihlp78_31 =>
                          intro i28 i29 i30 li28 ui28 li29 ui29 li30 ui30 hmlp78_31
                          refine zw_4 zr_191_78 rfl ?_
                          refine zw_3 zr_191_80 rfl ?_
                          refine zw_41_2 zr_191_81 ?_ ?_
                          · intro h33
                            refine zw_4 zr_191_195 rfl ?_
                            refine zw_R zr_191_197 (by decide) zm_191 (v := (0, i29)) rfl ?_
                            rw [← hQ]; exact ⟨_, rfl, by omega, by omega, hIm23, hFm23⟩
                          · intro h34
                            refine zw_push zr_191_84 ?_
                            refine zw_10 (L' := [(2, 69), (0, a0), (0, a1), (0, a2), (0, i28), (0, i29), (0, i30), (0, (-1)), (9, 0), (9, 0)]) zr_191_85 (Nat.le_of_ble_eq_true rfl) rfl ?_
                            refine zw_push zr_191_87 ?_
                            refine zw_10 (L' := [(2, 69), (0, a0), (0, a1), (0, a2), (0, i28), (0, i29), (0, i30), (0, (-1)), (0, 0), (9, 0)]) zr_191_88 (Nat.le_of_ble_eq_true rfl) rfl ?_
                            have lp90_38 : ∀ (nlp90_38 : Nat) (i35 i36 i37 : Int), (-1) ≤ i35 → i35 ≤ 59 → (-1) ≤ i36 → i36 ≤ 9 → 0 ≤ i37 → i37 ≤ 60 → (60 - i37).toNat < nlp90_38 → zW E (d) 191 90 [(2, 69), (0, a0), (0, a1), (0, a2), (0, i28), (0, i35), (0, i30), (0, i36), (0, i37), (9, 0)] [] m23 Q := by
                              intro nlp90_38
                              induction nlp90_38 with
                              | zero =>
                                intros
                                exact absurd (by assumption : _ < 0) (Nat.not_lt_zero _)
                              | succ nlp90_38 ihlp90_38 =>
                                intro i35 i36 i37 li35 ui35 li36 ui36 li37 ui37 hmlp90_38
                                refine zw_4 zr_191_90 rfl ?_
                                refine zw_7 zr_191_92 rfl ?_
                                refine zw_C zr_191_93 (Or.inl rfl) zm_142 rfl rfl ⟨Nat.le_of_ble_eq_true rfl, Nat.le_of_ble_eq_true rfl, Nat.le_of_ble_eq_true rfl, rfl, by decide⟩ (by omega) (P := (fun v m' => zW E (d) 191 96 [(2, 69), (0, a0), (0, a1), (0, a2), (0, i28), (0, i35), (0, i30), (0, i36), (0, i37), (9, 0)] (if v.1 = 9 then [(0, i37)] else v :: [(0, i37)]) m' Q)) ?_ (fun _ _ h => h)
                                generalize hQ1 : (fun v m' => zW E (d) 191 96 [(2, 69), (0, a0), (0, a1), (0, a2), (0, i28), (0, i35), (0, i30), (0, i36), (0, i37), (9, 0)] (if v.1 = 9 then [(0, i37)] else v :: [(0, i37)]) m' Q) = Q1
                                show zW E (d - 1) 142 0 [(2, 69)] [] m23 Q1
                                refine zw_7 zr_142_0 rfl ?_
                                refine zw_46r (s := 70) zr_142_1 rfl rfl rfl rfl ?_
                                refine zw_push zr_142_4 ?_
                                obtain ⟨f40, ef40⟩ : ∃ v, m23 70 823 = v := ⟨_, rfl⟩
                                have bf40 : 0 ≤ m23 70 823 ∧ m23 70 823 ≤ 60 := ib_70_meetings hIm23 (by omega)
                                rw [ef40] at bf40
                                refine zw_48k (c := 70) (len := 826) zr_142_7 rfl rfl (by omega) (by omega) (show (823 : Int).toNat = 823 by omega) ef40 ?_
                                refine zw_R zr_142_8 (by decide) zm_142 (v := (0, f40)) rfl ?_
                                rw [← hQ1]
                                show zW E (d) 191 96 [(2, 69), (0, a0), (0, a1), (0, a2), (0, i28), (0, i35), (0, i30), (0, i36), (0, i37), (9, 0)] [(0, f40), (0, i37)] m23 Q
                                refine zw_41_3 zr_191_96 ?_ ?_
                                · intro h41
                                  refine zw_4 zr_191_185 rfl ?_
                                  refine zw_10 (L' := [(2, 69), (0, a0), (0, a1), (0, a2), (0, i36), (0, i35), (0, i30), (0, i36), (0, i37), (9, 0)]) zr_191_187 (Nat.le_of_ble_eq_true rfl) rfl ?_
                                  refine zw_15 (c := 1) (L' := [(2, 69), (0, a0), (0, a1), (0, a2), (0, i36), (0, i35), (0, (i30 + 1)), (0, i36), (0, i37), (9, 0)]) zr_191_189 rfl (by decide) (by omega) rfl ?_
                                  refine zw_42 zr_191_192 ?_
                                  exact zw_less (L := [(2, 69), (0, a0), (0, a1), (0, a2), (0, i36), (0, i35), (0, (i30 + 1)), (9, 0), (9, 0), (9, 0)]) ⟨Or.inr rfl, Or.inr rfl, Or.inr rfl, Or.inr rfl, Or.inr rfl, Or.inr rfl, Or.inr rfl, Or.inl rfl, Or.inl rfl, Or.inl rfl, trivial⟩ (ihlp78_31 (i36) (i35) ((i30 + 1))  (by omega) (by omega) (by omega) (by omega) (by omega) (by omega) (by omega))
                                · intro h42
                                  refine zw_7 zr_191_99 rfl ?_
                                  refine zw_4 zr_191_100 rfl ?_
                                  refine zw_C zr_191_102 (Or.inl rfl) zm_181 rfl rfl ⟨Nat.le_of_ble_eq_true rfl, Nat.le_of_ble_eq_true rfl, Nat.le_of_ble_eq_true rfl, rfl, by decide⟩ (by omega) (P := (fun v m' => zW E (d) 191 105 [(2, 69), (0, a0), (0, a1), (0, a2), (0, i28), (0, i35), (0, i30), (0, i36), (0, i37), (9, 0)] (if v.1 = 9 then [] else v :: []) m' Q)) ?_ (fun _ _ h => h)
                                  generalize hQ1 : (fun v m' => zW E (d) 191 105 [(2, 69), (0, a0), (0, a1), (0, a2), (0, i28), (0, i35), (0, i30), (0, i36), (0, i37), (9, 0)] (if v.1 = 9 then [] else v :: []) m' Q) = Q1
                                  show zW E (d - 1) 181 0 [(2, 69), (0, i37)] [] m23 Q1
                                  refine zw_7 zr_181_0 rfl ?_
                                  refine zw_3 zr_181_1 rfl ?_
                                  refine zw_push zr_181_2 ?_
                                  refine zw_C zr_181_3 (Or.inl rfl) zm_144 rfl rfl ⟨Nat.le_of_ble_eq_true rfl, Nat.le_of_ble_eq_true rfl, Nat.le_of_ble_eq_true rfl, rfl, by decide⟩ (by omega) (P := (fun v m' => zW E (d - 1) 181 6 [(2, 69), (0, i37)] (if v.1 = 9 then [] else v :: []) m' Q1)) ?_ (fun _ _ h => h)
                                  generalize hQ2 : (fun v m' => zW E (d - 1) 181 6 [(2, 69), (0, i37)] (if v.1 = 9 then [] else v :: []) m' Q1) = Q2
                                  show zW E (d - 1 - 1) 144 0 [(2, 69), (0, i37), (0, 4)] [] m23 Q2
                                  refine zw_7 zr_144_0 rfl ?_
                                  refine zw_46r (s := 70) zr_144_1 rfl rfl rfl rfl ?_
                                  refine zw_push zr_144_4 ?_
                                  refine zw_push zr_144_6 ?_
                                  refine zw_3 zr_144_8 rfl ?_
                                  refine zw_18 zr_144_9 (by omega) ?_
                                  refine zw_16 zr_144_10 (by omega) ?_
                                  refine zw_3 zr_144_11 rfl ?_
                                  refine zw_16 zr_144_12 (by omega) ?_
                                  refine zw_48 (c := 70) (len := 826) zr_144_13 rfl rfl (by omega) (by omega) ?_
                                  intro x43 ex43
                                  have bx43 := ib_70_m4 hIm23 (k := (((90 + (6 * i37)) + 4)).toNat) (by omega)
                                  rw [← ex43] at bx43
                                  refine zw_R zr_144_14 (by decide) zm_144 (v := (0, x43)) rfl ?_
                                  rw [← hQ2]
                                  show zW E (d - 1) 181 6 [(2, 69), (0, i37)] [(0, x43)] m23 Q1
                                  refine zw_40_4 zr_181_6 ?_ ?_
                                  · intro h44
                                    refine zw_push zr_181_22 ?_
                                    refine zw_R zr_181_23 (by decide) zm_181 (v := (0, 0)) (zRetB (by omega)) ?_
                                    rw [← hQ1]
                                    show zW E (d) 191 105 [(2, 69), (0, a0), (0, a1), (0, a2), (0, i28), (0, i35), (0, i30), (0, i36), (0, i37), (9, 0)] [(0, 0)] m23 Q
                                    refine zw_40_1 zr_191_105 ?_ ?_
                                    · intro h45
                                      refine zw_15 (c := 1) (L' := [(2, 69), (0, a0), (0, a1), (0, a2), (0, i28), (0, i35), (0, i30), (0, i36), (0, (i37 + 1)), (9, 0)]) zr_191_179 rfl (by decide) (by omega) rfl ?_
                                      refine zw_42 zr_191_182 ?_
                                      exact zw_less (L := [(2, 69), (0, a0), (0, a1), (0, a2), (0, i28), (0, i35), (0, i30), (0, i36), (0, (i37 + 1)), (9, 0)]) ⟨Or.inr rfl, Or.inr rfl, Or.inr rfl, Or.inr rfl, Or.inr rfl, Or.inr rfl, Or.inr rfl, Or.inr rfl, Or.inr rfl, Or.inl rfl, trivial⟩ (ihlp90_38 (i35) (i36) ((i37 + 1))  (by omega) (by omega) (by omega) (by omega) (by omega) (by omega) (by omega))
                                    · intro h46; omega
                                  · intro h47
                                    refine zw_7 zr_181_9 rfl ?_
                                    refine zw_3 zr_181_10 rfl ?_
                                    refine zw_push zr_181_11 ?_
                                    refine zw_C zr_181_12 (Or.inl rfl) zm_144 rfl rfl ⟨Nat.le_of_ble_eq_true rfl, Nat.le_of_ble_eq_true rfl, Nat.le_of_ble_eq_true rfl, rfl, by decide⟩ (by omega) (P := (fun v m' => zW E (d - 1) 181 15 [(2, 69), (0, i37)] (if v.1 = 9 then [] else v :: []) m' Q1)) ?_ (fun _ _ h => h)
                                    generalize hQ2 : (fun v m' => zW E (d - 1) 181 15 [(2, 69), (0, i37)] (if v.1 = 9 then [] else v :: []) m' Q1) = Q2
                                    show zW E (d - 1 - 1) 144 0 [(2, 69), (0, i37), (0, 5)] [] m23 Q2
                                    refine zw_7 zr_144_0 rfl ?_
                                    refine zw_46r (s := 70) zr_144_1 rfl rfl rfl rfl ?_
                                    refine zw_push zr_144_4 ?_
                                    refine zw_push zr_144_6 ?_
                                    refine zw_3 zr_144_8 rfl ?_
                                    refine zw_18 zr_144_9 (by omega) ?_
                                    refine zw_16 zr_144_10 (by omega) ?_
                                    refine zw_3 zr_144_11 rfl ?_
                                    refine zw_16 zr_144_12 (by omega) ?_
                                    refine zw_48 (c := 70) (len := 826) zr_144_13 rfl rfl (by omega) (by omega) ?_
                                    intro x48 ex48
                                    have bx48 := ib_70_m5 hIm23 (k := (((90 + (6 * i37)) + 5)).toNat) (by omega)
                                    rw [← ex48] at bx48
                                    refine zw_R zr_144_14 (by decide) zm_144 (v := (0, x48)) rfl ?_
                                    rw [← hQ2]
                                    show zW E (d - 1) 181 15 [(2, 69), (0, i37)] [(0, x48)] m23 Q1
                                    refine zw_40_4 zr_181_15 ?_ ?_
                                    · intro h49
                                      refine zw_push zr_181_22 ?_
                                      refine zw_R zr_181_23 (by decide) zm_181 (v := (0, 0)) (zRetB (by omega)) ?_
                                      rw [← hQ1]
                                      show zW E (d) 191 105 [(2, 69), (0, a0), (0, a1), (0, a2), (0, i28), (0, i35), (0, i30), (0, i36), (0, i37), (9, 0)] [(0, 0)] m23 Q
                                      refine zw_40_1 zr_191_105 ?_ ?_
                                      · intro h50
                                        refine zw_15 (c := 1) (L' := [(2, 69), (0, a0), (0, a1), (0, a2), (0, i28), (0, i35), (0, i30), (0, i36), (0, (i37 + 1)), (9, 0)]) zr_191_179 rfl (by decide) (by omega) rfl ?_
                                        refine zw_42 zr_191_182 ?_
                                        exact zw_less (L := [(2, 69), (0, a0), (0, a1), (0, a2), (0, i28), (0, i35), (0, i30), (0, i36), (0, (i37 + 1)), (9, 0)]) ⟨Or.inr rfl, Or.inr rfl, Or.inr rfl, Or.inr rfl, Or.inr rfl, Or.inr rfl, Or.inr rfl, Or.inr rfl, Or.inr rfl, Or.inl rfl, trivial⟩ (ihlp90_38 (i35) (i36) ((i37 + 1))  (by omega) (by omega) (by omega) (by omega) (by omega) (by omega) (by omega))
                                      · intro h51; omega
                                    · intro h52
                                      refine zw_push zr_181_18 ?_
                                      refine zw_42 zr_181_19 ?_
                                      refine zw_R zr_181_23 (by decide) zm_181 (v := (0, 1)) (zRetB (by omega)) ?_
                                      rw [← hQ1]
                                      show zW E (d) 191 105 [(2, 69), (0, a0), (0, a1), (0, a2), (0, i28), (0, i35), (0, i30), (0, i36), (0, i37), (9, 0)] [(0, 1)] m23 Q
                                      refine zw_40_1 zr_191_105 ?_ ?_
                                      · intro h53; omega
                                      · intro h54
                                        refine zw_7 zr_191_108 rfl ?_
                                        refine zw_4 zr_191_109 rfl ?_
                                        refine zw_4 zr_191_111 rfl ?_
                                        refine zw_C zr_191_113 (Or.inl rfl) zm_171 rfl rfl ⟨Nat.le_of_ble_eq_true rfl, Nat.le_of_ble_eq_true rfl, Nat.le_of_ble_eq_true rfl, rfl, by decide⟩ (by omega) (P := (fun v m' => zW E (d) 191 116 [(2, 69), (0, a0), (0, a1), (0, a2), (0, i28), (0, i35), (0, i30), (0, i36), (0, i37), (9, 0)] (if v.1 = 9 then [] else v :: []) m' Q)) ?_ (fun _ _ h => h)
                                        generalize hQ1 : (fun v m' => zW E (d) 191 116 [(2, 69), (0, a0), (0, a1), (0, a2), (0, i28), (0, i35), (0, i30), (0, i36), (0, i37), (9, 0)] (if v.1 = 9 then [] else v :: []) m' Q) = Q1
                                        show zW E (d - 1) 171 0 [(2, 69), (0, i37), (0, i28)] [] m23 Q1
                                        refine zw_7 zr_171_0 rfl ?_
                                        refine zw_3 zr_171_1 rfl ?_
                                        refine zw_push zr_171_2 ?_
                                        refine zw_C zr_171_3 (Or.inl rfl) zm_144 rfl rfl ⟨Nat.le_of_ble_eq_true rfl, Nat.le_of_ble_eq_true rfl, Nat.le_of_ble_eq_true rfl, rfl, by decide⟩ (by omega) (P := (fun v m' => zW E (d - 1) 171 6 [(2, 69), (0, i37), (0, i28)] (if v.1 = 9 then [] else v :: []) m' Q1)) ?_ (fun _ _ h => h)
                                        generalize hQ2 : (fun v m' => zW E (d - 1) 171 6 [(2, 69), (0, i37), (0, i28)] (if v.1 = 9 then [] else v :: []) m' Q1) = Q2
                                        show zW E (d - 1 - 1) 144 0 [(2, 69), (0, i37), (0, 1)] [] m23 Q2
                                        refine zw_7 zr_144_0 rfl ?_
                                        refine zw_46r (s := 70) zr_144_1 rfl rfl rfl rfl ?_
                                        refine zw_push zr_144_4 ?_
                                        refine zw_push zr_144_6 ?_
                                        refine zw_3 zr_144_8 rfl ?_
                                        refine zw_18 zr_144_9 (by omega) ?_
                                        refine zw_16 zr_144_10 (by omega) ?_
                                        refine zw_3 zr_144_11 rfl ?_
                                        refine zw_16 zr_144_12 (by omega) ?_
                                        refine zw_48 (c := 70) (len := 826) zr_144_13 rfl rfl (by omega) (by omega) ?_
                                        intro x55 ex55
                                        have bx55 := ib_70_m1 hIm23 (k := (((90 + (6 * i37)) + 1)).toNat) (by omega)
                                        rw [← ex55] at bx55
                                        refine zw_R zr_144_14 (by decide) zm_144 (v := (0, x55)) rfl ?_
                                        rw [← hQ2]
                                        show zW E (d - 1) 171 6 [(2, 69), (0, i37), (0, i28)] [(0, x55)] m23 Q1
                                        refine zw_3 zr_171_6 rfl ?_
                                        refine zw_41_1 zr_171_7 ?_ ?_
                                        · intro h56
                                          refine zw_push zr_171_20 ?_
                                          refine zw_42 zr_171_21 ?_
                                          refine zw_R zr_171_25 (by decide) zm_171 (v := (0, 1)) (zRetB (by omega)) ?_
                                          rw [← hQ1]
                                          show zW E (d) 191 116 [(2, 69), (0, a0), (0, a1), (0, a2), (0, i28), (0, i35), (0, i30), (0, i36), (0, i37), (9, 0)] [(0, 1)] m23 Q
                                          refine zw_40_1 zr_191_116 ?_ ?_
                                          · intro h57; omega
                                          · intro h58
                                            refine zw_7 zr_191_119 rfl ?_
                                            refine zw_4 zr_191_120 rfl ?_
                                            refine zw_push zr_191_122 ?_
                                            refine zw_C zr_191_123 (Or.inl rfl) zm_144 rfl rfl ⟨Nat.le_of_ble_eq_true rfl, Nat.le_of_ble_eq_true rfl, Nat.le_of_ble_eq_true rfl, rfl, by decide⟩ (by omega) (P := (fun v m' => zW E (d) 191 126 [(2, 69), (0, a0), (0, a1), (0, a2), (0, i28), (0, i35), (0, i30), (0, i36), (0, i37), (9, 0)] (if v.1 = 9 then [] else v :: []) m' Q)) ?_ (fun _ _ h => h)
                                            generalize hQ1 : (fun v m' => zW E (d) 191 126 [(2, 69), (0, a0), (0, a1), (0, a2), (0, i28), (0, i35), (0, i30), (0, i36), (0, i37), (9, 0)] (if v.1 = 9 then [] else v :: []) m' Q) = Q1
                                            show zW E (d - 1) 144 0 [(2, 69), (0, i37), (0, 1)] [] m23 Q1
                                            refine zw_7 zr_144_0 rfl ?_
                                            refine zw_46r (s := 70) zr_144_1 rfl rfl rfl rfl ?_
                                            refine zw_push zr_144_4 ?_
                                            refine zw_push zr_144_6 ?_
                                            refine zw_3 zr_144_8 rfl ?_
                                            refine zw_18 zr_144_9 (by omega) ?_
                                            refine zw_16 zr_144_10 (by omega) ?_
                                            refine zw_3 zr_144_11 rfl ?_
                                            refine zw_16 zr_144_12 (by omega) ?_
                                            refine zw_48k (c := 70) (len := 826) zr_144_13 rfl rfl (by omega) (by omega) rfl ex55.symm ?_
                                            refine zw_R zr_144_14 (by decide) zm_144 (v := (0, x55)) rfl ?_
                                            rw [← hQ1]
                                            show zW E (d) 191 126 [(2, 69), (0, a0), (0, a1), (0, a2), (0, i28), (0, i35), (0, i30), (0, i36), (0, i37), (9, 0)] [(0, x55)] m23 Q
                                            refine zw_7 zr_191_126 rfl ?_
                                            refine zw_4 zr_191_127 rfl ?_
                                            refine zw_push zr_191_129 ?_
                                            refine zw_C zr_191_130 (Or.inl rfl) zm_144 rfl rfl ⟨Nat.le_of_ble_eq_true rfl, Nat.le_of_ble_eq_true rfl, Nat.le_of_ble_eq_true rfl, rfl, by decide⟩ (by omega) (P := (fun v m' => zW E (d) 191 133 [(2, 69), (0, a0), (0, a1), (0, a2), (0, i28), (0, i35), (0, i30), (0, i36), (0, i37), (9, 0)] (if v.1 = 9 then [(0, x55)] else v :: [(0, x55)]) m' Q)) ?_ (fun _ _ h => h)
                                            generalize hQ1 : (fun v m' => zW E (d) 191 133 [(2, 69), (0, a0), (0, a1), (0, a2), (0, i28), (0, i35), (0, i30), (0, i36), (0, i37), (9, 0)] (if v.1 = 9 then [(0, x55)] else v :: [(0, x55)]) m' Q) = Q1
                                            show zW E (d - 1) 144 0 [(2, 69), (0, i37), (0, 2)] [] m23 Q1
                                            refine zw_7 zr_144_0 rfl ?_
                                            refine zw_46r (s := 70) zr_144_1 rfl rfl rfl rfl ?_
                                            refine zw_push zr_144_4 ?_
                                            refine zw_push zr_144_6 ?_
                                            refine zw_3 zr_144_8 rfl ?_
                                            refine zw_18 zr_144_9 (by omega) ?_
                                            refine zw_16 zr_144_10 (by omega) ?_
                                            refine zw_3 zr_144_11 rfl ?_
                                            refine zw_16 zr_144_12 (by omega) ?_
                                            refine zw_48 (c := 70) (len := 826) zr_144_13 rfl rfl (by omega) (by omega) ?_
                                            intro x59 ex59
                                            have bx59 := ib_70_m2 hIm23 (k := (((90 + (6 * i37)) + 2)).toNat) (by omega)
                                            rw [← ex59] at bx59
                                            clear ex59
                                            refine zw_R zr_144_14 (by decide) zm_144 (v := (0, x59)) rfl ?_
                                            rw [← hQ1]
                                            show zW E (d) 191 133 [(2, 69), (0, a0), (0, a1), (0, a2), (0, i28), (0, i35), (0, i30), (0, i36), (0, i37), (9, 0)] [(0, x59), (0, x55)] m23 Q
                                            refine zw_16 zr_191_133 (by omega) ?_
                                            refine zw_4 zr_191_134 rfl ?_
                                            refine zw_17 zr_191_136 (by omega) ?_
                                            refine zw_10 (L' := [(2, 69), (0, a0), (0, a1), (0, a2), (0, i28), (0, i35), (0, i30), (0, i36), (0, i37), (0, ((x55 + x59) - i28))]) zr_191_137 (Nat.le_of_ble_eq_true rfl) rfl ?_
                                            refine zw_7 zr_191_139 rfl ?_
                                            refine zw_46r (s := 81) zr_191_140 rfl rfl rfl rfl ?_
                                            refine zw_4 zr_191_143 rfl ?_
                                            refine zw_48 (c := 81) (len := 10) zr_191_145 rfl rfl (by omega) (by omega) ?_
                                            intro x60 ex60
                                            clear ex60
                                            refine zw_7 zr_191_146 rfl ?_
                                            refine zw_46r (s := 81) zr_191_147 rfl rfl rfl rfl ?_
                                            refine zw_4 zr_191_150 rfl ?_
                                            refine zw_48 (c := 81) (len := 10) zr_191_152 rfl rfl (by omega) (by omega) ?_
                                            intro x61 ex61
                                            clear ex61
                                            refine zw_push zr_191_153 ?_
                                            refine zw_17h zr_191_154 ?_
                                            intro x62 hx62a hx62b
                                            refine zw_41_4 zr_191_155 ?_ ?_
                                            · intro h63
                                              refine zw_15 (c := 1) (L' := [(2, 69), (0, a0), (0, a1), (0, a2), (0, i28), (0, i35), (0, i30), (0, i36), (0, (i37 + 1)), (0, ((x55 + x59) - i28))]) zr_191_179 rfl (by decide) (by omega) rfl ?_
                                              refine zw_42 zr_191_182 ?_
                                              exact zw_less (L := [(2, 69), (0, a0), (0, a1), (0, a2), (0, i28), (0, i35), (0, i30), (0, i36), (0, (i37 + 1)), (9, 0)]) ⟨Or.inr rfl, Or.inr rfl, Or.inr rfl, Or.inr rfl, Or.inr rfl, Or.inr rfl, Or.inr rfl, Or.inr rfl, Or.inr rfl, Or.inl rfl, trivial⟩ (ihlp90_38 (i35) (i36) ((i37 + 1))  (by omega) (by omega) (by omega) (by omega) (by omega) (by omega) (by omega))
                                            · intro h64
                                              refine zw_4 zr_191_158 rfl ?_
                                              refine zw_push zr_191_160 ?_
                                              refine zw_41_1 zr_191_161 ?_ ?_
                                              · intro h65
                                                refine zw_4 zr_191_171 rfl ?_
                                                refine zw_10 (L' := [(2, 69), (0, a0), (0, a1), (0, a2), (0, i28), (0, i35), (0, i30), (0, ((x55 + x59) - i28)), (0, i37), (0, ((x55 + x59) - i28))]) zr_191_173 (Nat.le_of_ble_eq_true rfl) rfl ?_
                                                refine zw_4 zr_191_175 rfl ?_
                                                refine zw_10 (L' := [(2, 69), (0, a0), (0, a1), (0, a2), (0, i28), (0, i37), (0, i30), (0, ((x55 + x59) - i28)), (0, i37), (0, ((x55 + x59) - i28))]) zr_191_177 (Nat.le_of_ble_eq_true rfl) rfl ?_
                                                refine zw_15 (c := 1) (L' := [(2, 69), (0, a0), (0, a1), (0, a2), (0, i28), (0, i37), (0, i30), (0, ((x55 + x59) - i28)), (0, (i37 + 1)), (0, ((x55 + x59) - i28))]) zr_191_179 rfl (by decide) (by omega) rfl ?_
                                                refine zw_42 zr_191_182 ?_
                                                exact zw_less (L := [(2, 69), (0, a0), (0, a1), (0, a2), (0, i28), (0, i37), (0, i30), (0, ((x55 + x59) - i28)), (0, (i37 + 1)), (9, 0)]) ⟨Or.inr rfl, Or.inr rfl, Or.inr rfl, Or.inr rfl, Or.inr rfl, Or.inr rfl, Or.inr rfl, Or.inr rfl, Or.inr rfl, Or.inl rfl, trivial⟩ (ihlp90_38 (i37) (((x55 + x59) - i28)) ((i37 + 1))  (by omega) (by omega) (by omega) (by omega) (by omega) (by omega) (by omega))
                                              · intro h66
                                                refine zw_4 zr_191_164 rfl ?_
                                                refine zw_4 zr_191_166 rfl ?_
                                                refine zw_41_3 zr_191_168 ?_ ?_
                                                · intro h67
                                                  refine zw_15 (c := 1) (L' := [(2, 69), (0, a0), (0, a1), (0, a2), (0, i28), (0, i35), (0, i30), (0, i36), (0, (i37 + 1)), (0, ((x55 + x59) - i28))]) zr_191_179 rfl (by decide) (by omega) rfl ?_
                                                  refine zw_42 zr_191_182 ?_
                                                  exact zw_less (L := [(2, 69), (0, a0), (0, a1), (0, a2), (0, i28), (0, i35), (0, i30), (0, i36), (0, (i37 + 1)), (9, 0)]) ⟨Or.inr rfl, Or.inr rfl, Or.inr rfl, Or.inr rfl, Or.inr rfl, Or.inr rfl, Or.inr rfl, Or.inr rfl, Or.inr rfl, Or.inl rfl, trivial⟩ (ihlp90_38 (i35) (i36) ((i37 + 1))  (by omega) (by omega) (by omega) (by omega) (by omega) (by omega) (by omega))
                                                · intro h68
                                                  refine zw_4 zr_191_171 rfl ?_
                                                  refine zw_10 (L' := [(2, 69), (0, a0), (0, a1), (0, a2), (0, i28), (0, i35), (0, i30), (0, ((x55 + x59) - i28)), (0, i37), (0, ((x55 + x59) - i28))]) zr_191_173 (Nat.le_of_ble_eq_true rfl) rfl ?_
                                                  refine zw_4 zr_191_175 rfl ?_
                                                  refine zw_10 (L' := [(2, 69), (0, a0), (0, a1), (0, a2), (0, i28), (0, i37), (0, i30), (0, ((x55 + x59) - i28)), (0, i37), (0, ((x55 + x59) - i28))]) zr_191_177 (Nat.le_of_ble_eq_true rfl) rfl ?_
                                                  refine zw_15 (c := 1) (L' := [(2, 69), (0, a0), (0, a1), (0, a2), (0, i28), (0, i37), (0, i30), (0, ((x55 + x59) - i28)), (0, (i37 + 1)), (0, ((x55 + x59) - i28))]) zr_191_179 rfl (by decide) (by omega) rfl ?_
                                                  refine zw_42 zr_191_182 ?_
                                                  exact zw_less (L := [(2, 69), (0, a0), (0, a1), (0, a2), (0, i28), (0, i37), (0, i30), (0, ((x55 + x59) - i28)), (0, (i37 + 1)), (9, 0)]) ⟨Or.inr rfl, Or.inr rfl, Or.inr rfl, Or.inr rfl, Or.inr rfl, Or.inr rfl, Or.inr rfl, Or.inr rfl, Or.inr rfl, Or.inl rfl, trivial⟩ (ihlp90_38 (i37) (((x55 + x59) - i28)) ((i37 + 1))  (by omega) (by omega) (by omega) (by omega) (by omega) (by omega) (by omega))
                                        · intro h69
                                          refine zw_7 zr_171_10 rfl ?_
                                          refine zw_3 zr_171_11 rfl ?_
                                          refine zw_push zr_171_12 ?_
                                          refine zw_C zr_171_13 (Or.inl rfl) zm_144 rfl rfl ⟨Nat.le_of_ble_eq_true rfl, Nat.le_of_ble_eq_true rfl, Nat.le_of_ble_eq_true rfl, rfl, by decide⟩ (by omega) (P := (fun v m' => zW E (d - 1) 171 16 [(2, 69), (0, i37), (0, i28)] (if v.1 = 9 then [] else v :: []) m' Q1)) ?_ (fun _ _ h => h)
                                          generalize hQ2 : (fun v m' => zW E (d - 1) 171 16 [(2, 69), (0, i37), (0, i28)] (if v.1 = 9 then [] else v :: []) m' Q1) = Q2
                                          show zW E (d - 1 - 1) 144 0 [(2, 69), (0, i37), (0, 2)] [] m23 Q2
                                          refine zw_7 zr_144_0 rfl ?_
                                          refine zw_46r (s := 70) zr_144_1 rfl rfl rfl rfl ?_
                                          refine zw_push zr_144_4 ?_
                                          refine zw_push zr_144_6 ?_
                                          refine zw_3 zr_144_8 rfl ?_
                                          refine zw_18 zr_144_9 (by omega) ?_
                                          refine zw_16 zr_144_10 (by omega) ?_
                                          refine zw_3 zr_144_11 rfl ?_
                                          refine zw_16 zr_144_12 (by omega) ?_
                                          refine zw_48 (c := 70) (len := 826) zr_144_13 rfl rfl (by omega) (by omega) ?_
                                          intro x70 ex70
                                          have bx70 := ib_70_m2 hIm23 (k := (((90 + (6 * i37)) + 2)).toNat) (by omega)
                                          rw [← ex70] at bx70
                                          refine zw_R zr_144_14 (by decide) zm_144 (v := (0, x70)) rfl ?_
                                          rw [← hQ2]
                                          show zW E (d - 1) 171 16 [(2, 69), (0, i37), (0, i28)] [(0, x70)] m23 Q1
                                          refine zw_3 zr_171_16 rfl ?_
                                          refine zw_41_4 zr_171_17 ?_ ?_
                                          · intro h71
                                            refine zw_push zr_171_24 ?_
                                            refine zw_R zr_171_25 (by decide) zm_171 (v := (0, 0)) (zRetB (by omega)) ?_
                                            rw [← hQ1]
                                            show zW E (d) 191 116 [(2, 69), (0, a0), (0, a1), (0, a2), (0, i28), (0, i35), (0, i30), (0, i36), (0, i37), (9, 0)] [(0, 0)] m23 Q
                                            refine zw_40_1 zr_191_116 ?_ ?_
                                            · intro h72
                                              refine zw_15 (c := 1) (L' := [(2, 69), (0, a0), (0, a1), (0, a2), (0, i28), (0, i35), (0, i30), (0, i36), (0, (i37 + 1)), (9, 0)]) zr_191_179 rfl (by decide) (by omega) rfl ?_
                                              refine zw_42 zr_191_182 ?_
                                              exact zw_less (L := [(2, 69), (0, a0), (0, a1), (0, a2), (0, i28), (0, i35), (0, i30), (0, i36), (0, (i37 + 1)), (9, 0)]) ⟨Or.inr rfl, Or.inr rfl, Or.inr rfl, Or.inr rfl, Or.inr rfl, Or.inr rfl, Or.inr rfl, Or.inr rfl, Or.inr rfl, Or.inl rfl, trivial⟩ (ihlp90_38 (i35) (i36) ((i37 + 1))  (by omega) (by omega) (by omega) (by omega) (by omega) (by omega) (by omega))
                                            · intro h73; omega
                                          · intro h74
                                            refine zw_push zr_171_20 ?_
                                            refine zw_42 zr_171_21 ?_
                                            refine zw_R zr_171_25 (by decide) zm_171 (v := (0, 1)) (zRetB (by omega)) ?_
                                            rw [← hQ1]
                                            show zW E (d) 191 116 [(2, 69), (0, a0), (0, a1), (0, a2), (0, i28), (0, i35), (0, i30), (0, i36), (0, i37), (9, 0)] [(0, 1)] m23 Q
                                            refine zw_40_1 zr_191_116 ?_ ?_
                                            · intro h75; omega
                                            · intro h76
                                              refine zw_7 zr_191_119 rfl ?_
                                              refine zw_4 zr_191_120 rfl ?_
                                              refine zw_push zr_191_122 ?_
                                              refine zw_C zr_191_123 (Or.inl rfl) zm_144 rfl rfl ⟨Nat.le_of_ble_eq_true rfl, Nat.le_of_ble_eq_true rfl, Nat.le_of_ble_eq_true rfl, rfl, by decide⟩ (by omega) (P := (fun v m' => zW E (d) 191 126 [(2, 69), (0, a0), (0, a1), (0, a2), (0, i28), (0, i35), (0, i30), (0, i36), (0, i37), (9, 0)] (if v.1 = 9 then [] else v :: []) m' Q)) ?_ (fun _ _ h => h)
                                              generalize hQ1 : (fun v m' => zW E (d) 191 126 [(2, 69), (0, a0), (0, a1), (0, a2), (0, i28), (0, i35), (0, i30), (0, i36), (0, i37), (9, 0)] (if v.1 = 9 then [] else v :: []) m' Q) = Q1
                                              show zW E (d - 1) 144 0 [(2, 69), (0, i37), (0, 1)] [] m23 Q1
                                              refine zw_7 zr_144_0 rfl ?_
                                              refine zw_46r (s := 70) zr_144_1 rfl rfl rfl rfl ?_
                                              refine zw_push zr_144_4 ?_
                                              refine zw_push zr_144_6 ?_
                                              refine zw_3 zr_144_8 rfl ?_
                                              refine zw_18 zr_144_9 (by omega) ?_
                                              refine zw_16 zr_144_10 (by omega) ?_
                                              refine zw_3 zr_144_11 rfl ?_
                                              refine zw_16 zr_144_12 (by omega) ?_
                                              refine zw_48k (c := 70) (len := 826) zr_144_13 rfl rfl (by omega) (by omega) rfl ex55.symm ?_
                                              refine zw_R zr_144_14 (by decide) zm_144 (v := (0, x55)) rfl ?_
                                              rw [← hQ1]
                                              show zW E (d) 191 126 [(2, 69), (0, a0), (0, a1), (0, a2), (0, i28), (0, i35), (0, i30), (0, i36), (0, i37), (9, 0)] [(0, x55)] m23 Q
                                              refine zw_7 zr_191_126 rfl ?_
                                              refine zw_4 zr_191_127 rfl ?_
                                              refine zw_push zr_191_129 ?_
                                              refine zw_C zr_191_130 (Or.inl rfl) zm_144 rfl rfl ⟨Nat.le_of_ble_eq_true rfl, Nat.le_of_ble_eq_true rfl, Nat.le_of_ble_eq_true rfl, rfl, by decide⟩ (by omega) (P := (fun v m' => zW E (d) 191 133 [(2, 69), (0, a0), (0, a1), (0, a2), (0, i28), (0, i35), (0, i30), (0, i36), (0, i37), (9, 0)] (if v.1 = 9 then [(0, x55)] else v :: [(0, x55)]) m' Q)) ?_ (fun _ _ h => h)
                                              generalize hQ1 : (fun v m' => zW E (d) 191 133 [(2, 69), (0, a0), (0, a1), (0, a2), (0, i28), (0, i35), (0, i30), (0, i36), (0, i37), (9, 0)] (if v.1 = 9 then [(0, x55)] else v :: [(0, x55)]) m' Q) = Q1
                                              show zW E (d - 1) 144 0 [(2, 69), (0, i37), (0, 2)] [] m23 Q1
                                              refine zw_7 zr_144_0 rfl ?_
                                              refine zw_46r (s := 70) zr_144_1 rfl rfl rfl rfl ?_
                                              refine zw_push zr_144_4 ?_
                                              refine zw_push zr_144_6 ?_
                                              refine zw_3 zr_144_8 rfl ?_
                                              refine zw_18 zr_144_9 (by omega) ?_
                                              refine zw_16 zr_144_10 (by omega) ?_
                                              refine zw_3 zr_144_11 rfl ?_
                                              refine zw_16 zr_144_12 (by omega) ?_
                                              refine zw_48k (c := 70) (len := 826) zr_144_13 rfl rfl (by omega) (by omega) rfl ex70.symm ?_
                                              refine zw_R zr_144_14 (by decide) zm_144 (v := (0, x70)) rfl ?_
                                              rw [← hQ1]
                                              show zW E (d) 191 133 [(2, 69), (0, a0), (0, a1), (0, a2), (0, i28), (0, i35), (0, i30), (0, i36), (0, i37), (9, 0)] [(0, x70), (0, x55)] m23 Q
                                              refine zw_16 zr_191_133 (by omega) ?_
                                              refine zw_4 zr_191_134 rfl ?_
                                              refine zw_17 zr_191_136 (by omega) ?_
                                              refine zw_10 (L' := [(2, 69), (0, a0), (0, a1), (0, a2), (0, i28), (0, i35), (0, i30), (0, i36), (0, i37), (0, ((x55 + x70) - i28))]) zr_191_137 (Nat.le_of_ble_eq_true rfl) rfl ?_
                                              refine zw_7 zr_191_139 rfl ?_
                                              refine zw_46r (s := 81) zr_191_140 rfl rfl rfl rfl ?_
                                              refine zw_4 zr_191_143 rfl ?_
                                              refine zw_48 (c := 81) (len := 10) zr_191_145 rfl rfl (by omega) (by omega) ?_
                                              intro x77 ex77
                                              clear ex77
                                              refine zw_7 zr_191_146 rfl ?_
                                              refine zw_46r (s := 81) zr_191_147 rfl rfl rfl rfl ?_
                                              refine zw_4 zr_191_150 rfl ?_
                                              refine zw_48 (c := 81) (len := 10) zr_191_152 rfl rfl (by omega) (by omega) ?_
                                              intro x78 ex78
                                              clear ex78
                                              refine zw_push zr_191_153 ?_
                                              refine zw_17h zr_191_154 ?_
                                              intro x79 hx79a hx79b
                                              refine zw_41_4 zr_191_155 ?_ ?_
                                              · intro h80
                                                refine zw_15 (c := 1) (L' := [(2, 69), (0, a0), (0, a1), (0, a2), (0, i28), (0, i35), (0, i30), (0, i36), (0, (i37 + 1)), (0, ((x55 + x70) - i28))]) zr_191_179 rfl (by decide) (by omega) rfl ?_
                                                refine zw_42 zr_191_182 ?_
                                                exact zw_less (L := [(2, 69), (0, a0), (0, a1), (0, a2), (0, i28), (0, i35), (0, i30), (0, i36), (0, (i37 + 1)), (9, 0)]) ⟨Or.inr rfl, Or.inr rfl, Or.inr rfl, Or.inr rfl, Or.inr rfl, Or.inr rfl, Or.inr rfl, Or.inr rfl, Or.inr rfl, Or.inl rfl, trivial⟩ (ihlp90_38 (i35) (i36) ((i37 + 1))  (by omega) (by omega) (by omega) (by omega) (by omega) (by omega) (by omega))
                                              · intro h81
                                                refine zw_4 zr_191_158 rfl ?_
                                                refine zw_push zr_191_160 ?_
                                                refine zw_41_1 zr_191_161 ?_ ?_
                                                · intro h82
                                                  refine zw_4 zr_191_171 rfl ?_
                                                  refine zw_10 (L' := [(2, 69), (0, a0), (0, a1), (0, a2), (0, i28), (0, i35), (0, i30), (0, ((x55 + x70) - i28)), (0, i37), (0, ((x55 + x70) - i28))]) zr_191_173 (Nat.le_of_ble_eq_true rfl) rfl ?_
                                                  refine zw_4 zr_191_175 rfl ?_
                                                  refine zw_10 (L' := [(2, 69), (0, a0), (0, a1), (0, a2), (0, i28), (0, i37), (0, i30), (0, ((x55 + x70) - i28)), (0, i37), (0, ((x55 + x70) - i28))]) zr_191_177 (Nat.le_of_ble_eq_true rfl) rfl ?_
                                                  refine zw_15 (c := 1) (L' := [(2, 69), (0, a0), (0, a1), (0, a2), (0, i28), (0, i37), (0, i30), (0, ((x55 + x70) - i28)), (0, (i37 + 1)), (0, ((x55 + x70) - i28))]) zr_191_179 rfl (by decide) (by omega) rfl ?_
                                                  refine zw_42 zr_191_182 ?_
                                                  exact zw_less (L := [(2, 69), (0, a0), (0, a1), (0, a2), (0, i28), (0, i37), (0, i30), (0, ((x55 + x70) - i28)), (0, (i37 + 1)), (9, 0)]) ⟨Or.inr rfl, Or.inr rfl, Or.inr rfl, Or.inr rfl, Or.inr rfl, Or.inr rfl, Or.inr rfl, Or.inr rfl, Or.inr rfl, Or.inl rfl, trivial⟩ (ihlp90_38 (i37) (((x55 + x70) - i28)) ((i37 + 1))  (by omega) (by omega) (by omega) (by omega) (by omega) (by omega) (by omega))
                                                · intro h83
                                                  refine zw_4 zr_191_164 rfl ?_
                                                  refine zw_4 zr_191_166 rfl ?_
                                                  refine zw_41_3 zr_191_168 ?_ ?_
                                                  · intro h84
                                                    refine zw_15 (c := 1) (L' := [(2, 69), (0, a0), (0, a1), (0, a2), (0, i28), (0, i35), (0, i30), (0, i36), (0, (i37 + 1)), (0, ((x55 + x70) - i28))]) zr_191_179 rfl (by decide) (by omega) rfl ?_
                                                    refine zw_42 zr_191_182 ?_
                                                    exact zw_less (L := [(2, 69), (0, a0), (0, a1), (0, a2), (0, i28), (0, i35), (0, i30), (0, i36), (0, (i37 + 1)), (9, 0)]) ⟨Or.inr rfl, Or.inr rfl, Or.inr rfl, Or.inr rfl, Or.inr rfl, Or.inr rfl, Or.inr rfl, Or.inr rfl, Or.inr rfl, Or.inl rfl, trivial⟩ (ihlp90_38 (i35) (i36) ((i37 + 1))  (by omega) (by omega) (by omega) (by omega) (by omega) (by omega) (by omega))
                                                  · intro h85
                                                    refine zw_4 zr_191_171 rfl ?_
                                                    refine zw_10 (L' := [(2, 69), (0, a0), (0, a1), (0, a2), (0, i28), (0, i35), (0, i30), (0, ((x55 + x70) - i28)), (0, i37), (0, ((x55 + x70) - i28))]) zr_191_173 (Nat.le_of_ble_eq_true rfl) rfl ?_
                                                    refine zw_4 zr_191_175 rfl ?_
                                                    refine zw_10 (L' := [(2, 69), (0, a0), (0, a1), (0, a2), (0, i28), (0, i37), (0, i30), (0, ((x55 + x70) - i28)), (0, i37), (0, ((x55 + x70) - i28))]) zr_191_177 (Nat.le_of_ble_eq_true rfl) rfl ?_
                                                    refine zw_15 (c := 1) (L' := [(2, 69), (0, a0), (0, a1), (0, a2), (0, i28), (0, i37), (0, i30), (0, ((x55 + x70) - i28)), (0, (i37 + 1)), (0, ((x55 + x70) - i28))]) zr_191_179 rfl (by decide) (by omega) rfl ?_
                                                    refine zw_42 zr_191_182 ?_
                                                    exact zw_less (L := [(2, 69), (0, a0), (0, a1), (0, a2), (0, i28), (0, i37), (0, i30), (0, ((x55 + x70) - i28)), (0, (i37 + 1)), (9, 0)]) ⟨Or.inr rfl, Or.inr rfl, Or.inr rfl, Or.inr rfl, Or.inr rfl, Or.inr rfl, Or.inr rfl, Or.inr rfl, Or.inr rfl, Or.inl rfl, trivial⟩ (ihlp90_38 (i37) (((x55 + x70) - i28)) ((i37 + 1))  (by omega) (by omega) (by omega) (by omega) (by omega) (by omega) (by omega))
                            exact lp90_38 _ (i29) ((-1)) (0)  (by omega) (by omega) (by omega) (by omega) (by omega) (by omega) (Nat.lt_succ_self _)
                      exact lp78_31 _ (a0) ((-1)) (0)  (by omega) (by omega) (by omega) (by omega) (by omega) (by omega) (Nat.lt_succ_self _)
                    · intro h86
                      refine zw_push zr_191_66 ?_
                      refine zw_R zr_191_68 (by decide) zm_191 (v := (0, (-5))) rfl ?_
                      rw [← hQ]; exact ⟨_, rfl, by omega, by omega, hIm23, hFm23⟩
                  · intro h87
                    refine zw_7 zr_191_49 rfl ?_
                    refine zw_46r (s := 81) zr_191_50 rfl rfl rfl rfl ?_
                    refine zw_3 zr_191_53 rfl ?_
                    refine zw_48k (c := 81) (len := 10) zr_191_54 rfl rfl (by omega) (by omega) rfl ex24.symm ?_
                    refine zw_R zr_191_55 (by decide) zm_191 (v := (0, x24)) rfl ?_
                    rw [← hQ]; exact ⟨_, rfl, by omega, by omega, hIm23, hFm23⟩
                · intro h88
                  refine zw_push zr_191_41 ?_
                  refine zw_R zr_191_43 (by decide) zm_191 (v := (0, (-5))) rfl ?_
                  rw [← hQ]; exact ⟨_, rfl, by omega, by omega, hIm23, hFm23⟩
              · intro h89
                refine zw_push zr_191_21 ?_
                refine zw_R zr_191_23 (by decide) zm_191 (v := (0, (-10))) rfl ?_
                rw [← hQ]; exact ⟨_, rfl, by omega, by omega, hI0, hF0⟩

abbrev W_76 : List (Nat × Nat) := [(61, 1000), (62, 1000)]
set_option maxHeartbeats 8000000 in
theorem th_76 {E : zE} {d : Nat} {m0 : zM} (hd : 3 ≤ d) (hI0 : zInv m0) : zC E d 76 [(2, 60)] m0 (fun v m' => ∃ r : Int, v = (1, r) ∧ (-9223372036854775808) ≤ r ∧ r ≤ 9223372036854775807 ∧ zInv m' ∧ zFr W_76 m0 m') := by
  have hF0 : zFr W_76 m0 m0 := zFr.rfl
  generalize hQ : (fun (v : zV) (m' : zM) => ∃ r : Int, v = (1, r) ∧ (-9223372036854775808) ≤ r ∧ r ≤ 9223372036854775807 ∧ zInv m' ∧ zFr W_76 m0 m') = Q
  show zW E d 76 0 [(2, 60), (9, 0), (9, 0), (9, 0), (9, 0), (9, 0), (9, 0), (9, 0)] [] m0 Q
  refine zw_7 zr_76_0 rfl ?_
  refine zw_46r (s := 1) zr_76_1 rfl rfl rfl rfl ?_
  refine zw_C zr_76_4 (Or.inl rfl) zm_53 rfl rfl ⟨Nat.le_of_ble_eq_true rfl, Nat.le_of_ble_eq_true rfl, Nat.le_of_ble_eq_true rfl, rfl, by decide⟩ (by omega) (th_53 (d := d - 1) (by omega) hI0  ) ?_
  rintro _ _ ⟨r1, rfl, hr1a, hr1b, rfl⟩
  show zW E (d) 76 7 [(2, 60), (9, 0), (9, 0), (9, 0), (9, 0), (9, 0), (9, 0), (9, 0)] [(1, r1)] m0 Q
  refine zw_13 (L' := [(2, 60), (1, r1), (9, 0), (9, 0), (9, 0), (9, 0), (9, 0), (9, 0)]) zr_76_7 (Nat.le_of_ble_eq_true rfl) rfl ?_
  refine zw_push zr_76_8 ?_
  refine zw_13 (L' := [(2, 60), (1, r1), (9, 0), (1, 0), (9, 0), (9, 0), (9, 0), (9, 0)]) zr_76_9 (Nat.le_of_ble_eq_true rfl) rfl ?_
  refine zw_push zr_76_10 ?_
  refine zw_10 (L' := [(2, 60), (1, r1), (9, 0), (1, 0), (9, 0), (0, 0), (9, 0), (9, 0)]) zr_76_11 (Nat.le_of_ble_eq_true rfl) rfl ?_
  have lp13_5 : ∀ (nlp13_5 : Nat) (i2 i3 : Int) (m4 : zM), zInv m4 → zFr W_76 m0 m4 → (-9223372036854775808) ≤ i2 → i2 ≤ 9223372036854775807 → 0 ≤ i3 → i3 ≤ 60 → (60 - i3).toNat < nlp13_5 → zW E (d) 76 13 [(2, 60), (1, r1), (9, 0), (1, i2), (9, 0), (0, i3), (9, 0), (9, 0)] [] m4 Q := by
    intro nlp13_5
    induction nlp13_5 with
    | zero =>
      intros
      exact absurd (by assumption : _ < 0) (Nat.not_lt_zero _)
    | succ nlp13_5 ihlp13_5 =>
      intro i2 i3 m4 hIm4 hFm4 li2 ui2 li3 ui3 hmlp13_5
      refine zw_4 zr_76_13 rfl ?_
      refine zw_7 zr_76_15 rfl ?_
      refine zw_46r (s := 1) zr_76_16 rfl rfl rfl rfl ?_
      obtain ⟨f7, ef7⟩ : ∃ v, m4 1 1 = v := ⟨_, rfl⟩
      have bf7 := ib_1_1 hIm4
      rw [ef7] at bf7
      refine zw_46i zr_76_19 ef7 rfl rfl rfl ?_
      refine zw_41_3 zr_76_22 ?_ ?_
      · intro h8
        refine zw_5 zr_76_100 rfl ?_
        refine zw_R zr_76_101 (by decide) zm_76 (v := (1, i2)) rfl ?_
        rw [← hQ]; exact ⟨_, rfl, by omega, by omega, hIm4, hFm4⟩
      · intro h9
        refine zw_push zr_76_25 ?_
        refine zw_4 zr_76_26 rfl ?_
        refine zw_33h zr_76_28 ?_
        intro x10 hx10a hx10b
        refine zw_14 (L' := [(2, 60), (1, r1), (9, 0), (1, i2), (9, 0), (0, i3), (1, x10), (9, 0)]) zr_76_29 (Nat.le_of_ble_eq_true rfl) rfl ?_
        refine zw_5 zr_76_31 rfl ?_
        refine zw_6 zr_76_32 rfl ?_
        refine zw_30h zr_76_34 ?_
        intro x11 hx11a hx11b
        refine zw_push zr_76_35 ?_
        refine zw_39_1 zr_76_36 zr_76_37 ?_ ?_
        · intro h12
          refine zw_15 (c := 1) (L' := [(2, 60), (1, r1), (9, 0), (1, i2), (9, 0), (0, (i3 + 1)), (1, x10), (9, 0)]) zr_76_94 rfl (by decide) (by omega) rfl ?_
          refine zw_42 zr_76_97 ?_
          exact zw_less (L := [(2, 60), (1, r1), (9, 0), (1, i2), (9, 0), (0, (i3 + 1)), (9, 0), (9, 0)]) ⟨Or.inr rfl, Or.inr rfl, Or.inl rfl, Or.inr rfl, Or.inl rfl, Or.inr rfl, Or.inl rfl, Or.inl rfl, trivial⟩ (ihlp13_5 (i2) ((i3 + 1)) m4 hIm4 hFm4   (by omega) (by omega) (by omega) (by omega) (by omega))
        · intro h13
          refine zw_7 zr_76_40 rfl ?_
          refine zw_5 zr_76_41 rfl ?_
          refine zw_6 zr_76_42 rfl ?_
          refine zw_push zr_76_44 ?_
          refine zw_32h zr_76_47 ?_
          intro x14 hx14a hx14b
          refine zw_30h zr_76_48 ?_
          intro x15 hx15a hx15b
          refine zw_C zr_76_49 (Or.inl rfl) zm_66 rfl rfl ⟨Nat.le_of_ble_eq_true rfl, Nat.le_of_ble_eq_true rfl, Nat.le_of_ble_eq_true rfl, rfl, by decide⟩ (by omega) (th_66 (d := d - 1) (by omega) hIm4 (a0 := x15) (by omega)) ?_
          rintro _ m16 ⟨rfl, hIm16, gm16⟩
          have hFm16 : zFr W_76 m0 m16 := hFm4.trans gm16 rfl
          have km16_1_1 : m16 1 1 = f7 := (gm16 1 1 rfl).trans ef7
          show zW E (d) 76 52 [(2, 60), (1, r1), (9, 0), (1, i2), (9, 0), (0, i3), (1, x10), (9, 0)] [] m16 Q
          refine zw_7 zr_76_52 rfl ?_
          refine zw_7 zr_76_53 rfl ?_
          refine zw_46r (s := 1) zr_76_54 rfl rfl rfl rfl ?_
          refine zw_46r (s := 6) zr_76_57 rfl rfl rfl rfl ?_
          refine zw_4 zr_76_60 rfl ?_
          refine zw_48 (c := 6) (len := 60) zr_76_62 rfl rfl (by omega) (by omega) ?_
          intro x17 ex17
          have bx17 := ib_6 hIm16 (k := (i3).toNat) (by omega)
          rw [← ex17] at bx17
          clear ex17
          refine zw_C zr_76_63 (Or.inl rfl) zm_67 rfl rfl ⟨Nat.le_of_ble_eq_true rfl, Nat.le_of_ble_eq_true rfl, Nat.le_of_ble_eq_true rfl, rfl, by decide⟩ (by omega) (th_67 (d := d - 1) (by omega) hIm16 (a0 := x17) (by omega)) ?_
          rintro _ m18 ⟨rfl, hIm18, gm18⟩
          have hFm18 : zFr W_76 m0 m18 := hFm16.trans gm18 rfl
          have km18_1_1 : m18 1 1 = f7 := (gm18 1 1 rfl).trans km16_1_1
          show zW E (d) 76 66 [(2, 60), (1, r1), (9, 0), (1, i2), (9, 0), (0, i3), (1, x10), (9, 0)] [] m18 Q
          refine zw_5 zr_76_66 rfl ?_
          refine zw_7 zr_76_67 rfl ?_
          refine zw_46r (s := 62) zr_76_68 rfl rfl rfl rfl ?_
          refine zw_7 zr_76_71 rfl ?_
          refine zw_46r (s := 1) zr_76_72 rfl rfl rfl rfl ?_
          refine zw_46r (s := 7) zr_76_75 rfl rfl rfl rfl ?_
          refine zw_4 zr_76_78 rfl ?_
          refine zw_48 (c := 7) (len := 60) zr_76_80 rfl rfl (by omega) (by omega) ?_
          intro x19 ex19
          have bx19 := ib_7 hIm18 (k := (i3).toNat) (by omega)
          rw [← ex19] at bx19
          clear ex19
          refine zw_48 (c := 62) (len := 10) zr_76_81 rfl rfl (by omega) (by omega) ?_
          intro x20 ex20
          clear ex20
          refine zw_push zr_76_82 ?_
          refine zw_41_4 zr_76_83 ?_ ?_
          · intro h21
            refine zw_push zr_76_91 ?_
            refine zw_31h zr_76_92 ?_
            intro x22 hx22a hx22b
            refine zw_13 (L' := [(2, 60), (1, r1), (9, 0), (1, x22), (9, 0), (0, i3), (1, x10), (9, 0)]) zr_76_93 (Nat.le_of_ble_eq_true rfl) rfl ?_
            refine zw_15 (c := 1) (L' := [(2, 60), (1, r1), (9, 0), (1, x22), (9, 0), (0, (i3 + 1)), (1, x10), (9, 0)]) zr_76_94 rfl (by decide) (by omega) rfl ?_
            refine zw_42 zr_76_97 ?_
            exact zw_less (L := [(2, 60), (1, r1), (9, 0), (1, x22), (9, 0), (0, (i3 + 1)), (9, 0), (9, 0)]) ⟨Or.inr rfl, Or.inr rfl, Or.inl rfl, Or.inr rfl, Or.inl rfl, Or.inr rfl, Or.inl rfl, Or.inl rfl, trivial⟩ (ihlp13_5 (x22) ((i3 + 1)) m18 hIm18 hFm18   (by omega) (by omega) (by omega) (by omega) (by omega))
          · intro h23
            refine zw_6 zr_76_86 rfl ?_
            refine zw_42 zr_76_88 ?_
            refine zw_31h zr_76_92 ?_
            intro x24 hx24a hx24b
            refine zw_13 (L' := [(2, 60), (1, r1), (9, 0), (1, x24), (9, 0), (0, i3), (1, x10), (9, 0)]) zr_76_93 (Nat.le_of_ble_eq_true rfl) rfl ?_
            refine zw_15 (c := 1) (L' := [(2, 60), (1, r1), (9, 0), (1, x24), (9, 0), (0, (i3 + 1)), (1, x10), (9, 0)]) zr_76_94 rfl (by decide) (by omega) rfl ?_
            refine zw_42 zr_76_97 ?_
            exact zw_less (L := [(2, 60), (1, r1), (9, 0), (1, x24), (9, 0), (0, (i3 + 1)), (9, 0), (9, 0)]) ⟨Or.inr rfl, Or.inr rfl, Or.inl rfl, Or.inr rfl, Or.inl rfl, Or.inr rfl, Or.inl rfl, Or.inl rfl, trivial⟩ (ihlp13_5 (x24) ((i3 + 1)) m18 hIm18 hFm18   (by omega) (by omega) (by omega) (by omega) (by omega))
  exact lp13_5 _ (0) (0) m0 hI0 hF0   (by omega) (by omega) (by omega) (by omega) (Nat.lt_succ_self _)

abbrev W_122 : List (Nat × Nat) := [(61, 1000), (62, 1000)]
set_option maxHeartbeats 8000000 in
theorem th_122 {E : zE} {d : Nat} {m0 : zM} (hd : 4 ≤ d) (hI0 : zInv m0) : zC E d 122 [(2, 0)] m0 (fun v m' => ∃ r : Int, v = (1, r) ∧ (-9223372036854775808) ≤ r ∧ r ≤ 9223372036854775807 ∧ zInv m' ∧ zFr W_122 m0 m') := by
  have hF0 : zFr W_122 m0 m0 := zFr.rfl
  generalize hQ : (fun (v : zV) (m' : zM) => ∃ r : Int, v = (1, r) ∧ (-9223372036854775808) ≤ r ∧ r ≤ 9223372036854775807 ∧ zInv m' ∧ zFr W_122 m0 m') = Q
  show zW E d 122 0 [(2, 0)] [] m0 Q
  refine zw_7 zr_122_0 rfl ?_
  refine zw_46r (s := 60) zr_122_1 rfl rfl rfl rfl ?_
  refine zw_C zr_122_4 (Or.inl rfl) zm_76 rfl rfl ⟨Nat.le_of_ble_eq_true rfl, Nat.le_of_ble_eq_true rfl, Nat.le_of_ble_eq_true rfl, rfl, by decide⟩ (by omega) (th_76 (d := d - 1) (by omega) hI0  ) ?_
  rintro _ m1 ⟨r2, rfl, hr2a, hr2b, hIm1, gm1⟩
  have hFm1 : zFr W_122 m0 m1 := hF0.trans gm1 rfl
  show zW E (d) 122 7 [(2, 0)] [(1, r2)] m1 Q
  refine zw_R zr_122_7 (by decide) zm_122 (v := (1, r2)) rfl ?_
  rw [← hQ]; exact ⟨_, rfl, by omega, by omega, hIm1, hFm1⟩

abbrev W_192 : List (Nat × Nat) := [(81, 1000)]
set_option maxHeartbeats 8000000 in
theorem th_192 {E : zE} {d : Nat} {m0 : zM} (hd : 4 ≤ d) (hI0 : zInv m0) : zC E d 192 [(2, 69)] m0 (fun v m' => ∃ r : Int, v = (1, r) ∧ (-9223372036854775808) ≤ r ∧ r ≤ 9223372036854775807 ∧ zInv m' ∧ zFr W_192 m0 m') := by
  have hF0 : zFr W_192 m0 m0 := zFr.rfl
  generalize hQ : (fun (v : zV) (m' : zM) => ∃ r : Int, v = (1, r) ∧ (-9223372036854775808) ≤ r ∧ r ≤ 9223372036854775807 ∧ zInv m' ∧ zFr W_192 m0 m') = Q
  show zW E d 192 0 [(2, 69), (9, 0), (9, 0), (9, 0)] [] m0 Q
  refine zw_push zr_192_0 ?_
  refine zw_13 (L' := [(2, 69), (1, 0), (9, 0), (9, 0)]) zr_192_1 (Nat.le_of_ble_eq_true rfl) rfl ?_
  refine zw_push zr_192_2 ?_
  refine zw_9 (L' := [(2, 69), (1, 0), (9, 0), (0, 0)]) zr_192_3 (Nat.le_of_ble_eq_true rfl) rfl ?_
  have lp4_4 : ∀ (nlp4_4 : Nat) (i1 i2 : Int) (m3 : zM), zInv m3 → zFr W_192 m0 m3 → (-9223372036854775808) ≤ i1 → i1 ≤ 9223372036854775807 → 0 ≤ i2 → i2 ≤ 60 → (60 - i2).toNat < nlp4_4 → zW E (d) 192 4 [(2, 69), (1, i1), (9, 0), (0, i2)] [] m3 Q := by
    intro nlp4_4
    induction nlp4_4 with
    | zero =>
      intros
      exact absurd (by assumption : _ < 0) (Nat.not_lt_zero _)
    | succ nlp4_4 ihlp4_4 =>
      intro i1 i2 m3 hIm3 hFm3 li1 ui1 li2 ui2 hmlp4_4
      refine zw_3 zr_192_4 rfl ?_
      refine zw_7 zr_192_5 rfl ?_
      refine zw_C zr_192_6 (Or.inl rfl) zm_142 rfl rfl ⟨Nat.le_of_ble_eq_true rfl, Nat.le_of_ble_eq_true rfl, Nat.le_of_ble_eq_true rfl, rfl, by decide⟩ (by omega) (P := (fun v m' => zW E (d) 192 9 [(2, 69), (1, i1), (9, 0), (0, i2)] (if v.1 = 9 then [(0, i2)] else v :: [(0, i2)]) m' Q)) ?_ (fun _ _ h => h)
      generalize hQ1 : (fun v m' => zW E (d) 192 9 [(2, 69), (1, i1), (9, 0), (0, i2)] (if v.1 = 9 then [(0, i2)] else v :: [(0, i2)]) m' Q) = Q1
      show zW E (d - 1) 142 0 [(2, 69)] [] m3 Q1
      refine zw_7 zr_142_0 rfl ?_
      refine zw_46r (s := 70) zr_142_1 rfl rfl rfl rfl ?_
      refine zw_push zr_142_4 ?_
      obtain ⟨f6, ef6⟩ : ∃ v, m3 70 823 = v := ⟨_, rfl⟩
      have bf6 : 0 ≤ m3 70 823 ∧ m3 70 823 ≤ 60 := ib_70_meetings hIm3 (by omega)
      rw [ef6] at bf6
      refine zw_48k (c := 70) (len := 826) zr_142_7 rfl rfl (by omega) (by omega) (show (823 : Int).toNat = 823 by omega) ef6 ?_
      refine zw_R zr_142_8 (by decide) zm_142 (v := (0, f6)) rfl ?_
      rw [← hQ1]
      show zW E (d) 192 9 [(2, 69), (1, i1), (9, 0), (0, i2)] [(0, f6), (0, i2)] m3 Q
      refine zw_41_3 zr_192_9 ?_ ?_
      · intro h7
        refine zw_5 zr_192_63 rfl ?_
        refine zw_R zr_192_64 (by decide) zm_192 (v := (1, i1)) rfl ?_
        rw [← hQ]; exact ⟨_, rfl, by omega, by omega, hIm3, hFm3⟩
      · intro h8
        refine zw_7 zr_192_12 rfl ?_
        refine zw_3 zr_192_13 rfl ?_
        refine zw_C zr_192_14 (Or.inl rfl) zm_181 rfl rfl ⟨Nat.le_of_ble_eq_true rfl, Nat.le_of_ble_eq_true rfl, Nat.le_of_ble_eq_true rfl, rfl, by decide⟩ (by omega) (P := (fun v m' => zW E (d) 192 17 [(2, 69), (1, i1), (9, 0), (0, i2)] (if v.1 = 9 then [] else v :: []) m' Q)) ?_ (fun _ _ h => h)
        generalize hQ1 : (fun v m' => zW E (d) 192 17 [(2, 69), (1, i1), (9, 0), (0, i2)] (if v.1 = 9 then [] else v :: []) m' Q) = Q1
        show zW E (d - 1) 181 0 [(2, 69), (0, i2)] [] m3 Q1
        refine zw_7 zr_181_0 rfl ?_
        refine zw_3 zr_181_1 rfl ?_
        refine zw_push zr_181_2 ?_
        refine zw_C zr_181_3 (Or.inl rfl) zm_144 rfl rfl ⟨Nat.le_of_ble_eq_true rfl, Nat.le_of_ble_eq_true rfl, Nat.le_of_ble_eq_true rfl, rfl, by decide⟩ (by omega) (P := (fun v m' => zW E (d - 1) 181 6 [(2, 69), (0, i2)] (if v.1 = 9 then [] else v :: []) m' Q1)) ?_ (fun _ _ h => h)
        generalize hQ2 : (fun v m' => zW E (d - 1) 181 6 [(2, 69), (0, i2)] (if v.1 = 9 then [] else v :: []) m' Q1) = Q2
        show zW E (d - 1 - 1) 144 0 [(2, 69), (0, i2), (0, 4)] [] m3 Q2
        refine zw_7 zr_144_0 rfl ?_
        refine zw_46r (s := 70) zr_144_1 rfl rfl rfl rfl ?_
        refine zw_push zr_144_4 ?_
        refine zw_push zr_144_6 ?_
        refine zw_3 zr_144_8 rfl ?_
        refine zw_18 zr_144_9 (by omega) ?_
        refine zw_16 zr_144_10 (by omega) ?_
        refine zw_3 zr_144_11 rfl ?_
        refine zw_16 zr_144_12 (by omega) ?_
        refine zw_48 (c := 70) (len := 826) zr_144_13 rfl rfl (by omega) (by omega) ?_
        intro x9 ex9
        have bx9 := ib_70_m4 hIm3 (k := (((90 + (6 * i2)) + 4)).toNat) (by omega)
        rw [← ex9] at bx9
        clear ex9
        refine zw_R zr_144_14 (by decide) zm_144 (v := (0, x9)) rfl ?_
        rw [← hQ2]
        show zW E (d - 1) 181 6 [(2, 69), (0, i2)] [(0, x9)] m3 Q1
        refine zw_40_4 zr_181_6 ?_ ?_
        · intro h10
          refine zw_push zr_181_22 ?_
          refine zw_R zr_181_23 (by decide) zm_181 (v := (0, 0)) (zRetB (by omega)) ?_
          rw [← hQ1]
          show zW E (d) 192 17 [(2, 69), (1, i1), (9, 0), (0, i2)] [(0, 0)] m3 Q
          refine zw_40_1 zr_192_17 ?_ ?_
          · intro h11
            refine zw_15 (c := 1) (L' := [(2, 69), (1, i1), (9, 0), (0, (i2 + 1))]) zr_192_57 rfl (by decide) (by omega) rfl ?_
            refine zw_42 zr_192_60 ?_
            exact zw_less (L := [(2, 69), (1, i1), (9, 0), (0, (i2 + 1))]) ⟨Or.inr rfl, Or.inr rfl, Or.inl rfl, Or.inr rfl, trivial⟩ (ihlp4_4 (i1) ((i2 + 1)) m3 hIm3 hFm3   (by omega) (by omega) (by omega) (by omega) (by omega))
          · intro h12; omega
        · intro h13
          refine zw_7 zr_181_9 rfl ?_
          refine zw_3 zr_181_10 rfl ?_
          refine zw_push zr_181_11 ?_
          refine zw_C zr_181_12 (Or.inl rfl) zm_144 rfl rfl ⟨Nat.le_of_ble_eq_true rfl, Nat.le_of_ble_eq_true rfl, Nat.le_of_ble_eq_true rfl, rfl, by decide⟩ (by omega) (P := (fun v m' => zW E (d - 1) 181 15 [(2, 69), (0, i2)] (if v.1 = 9 then [] else v :: []) m' Q1)) ?_ (fun _ _ h => h)
          generalize hQ2 : (fun v m' => zW E (d - 1) 181 15 [(2, 69), (0, i2)] (if v.1 = 9 then [] else v :: []) m' Q1) = Q2
          show zW E (d - 1 - 1) 144 0 [(2, 69), (0, i2), (0, 5)] [] m3 Q2
          refine zw_7 zr_144_0 rfl ?_
          refine zw_46r (s := 70) zr_144_1 rfl rfl rfl rfl ?_
          refine zw_push zr_144_4 ?_
          refine zw_push zr_144_6 ?_
          refine zw_3 zr_144_8 rfl ?_
          refine zw_18 zr_144_9 (by omega) ?_
          refine zw_16 zr_144_10 (by omega) ?_
          refine zw_3 zr_144_11 rfl ?_
          refine zw_16 zr_144_12 (by omega) ?_
          refine zw_48 (c := 70) (len := 826) zr_144_13 rfl rfl (by omega) (by omega) ?_
          intro x14 ex14
          have bx14 := ib_70_m5 hIm3 (k := (((90 + (6 * i2)) + 5)).toNat) (by omega)
          rw [← ex14] at bx14
          clear ex14
          refine zw_R zr_144_14 (by decide) zm_144 (v := (0, x14)) rfl ?_
          rw [← hQ2]
          show zW E (d - 1) 181 15 [(2, 69), (0, i2)] [(0, x14)] m3 Q1
          refine zw_40_4 zr_181_15 ?_ ?_
          · intro h15
            refine zw_push zr_181_22 ?_
            refine zw_R zr_181_23 (by decide) zm_181 (v := (0, 0)) (zRetB (by omega)) ?_
            rw [← hQ1]
            show zW E (d) 192 17 [(2, 69), (1, i1), (9, 0), (0, i2)] [(0, 0)] m3 Q
            refine zw_40_1 zr_192_17 ?_ ?_
            · intro h16
              refine zw_15 (c := 1) (L' := [(2, 69), (1, i1), (9, 0), (0, (i2 + 1))]) zr_192_57 rfl (by decide) (by omega) rfl ?_
              refine zw_42 zr_192_60 ?_
              exact zw_less (L := [(2, 69), (1, i1), (9, 0), (0, (i2 + 1))]) ⟨Or.inr rfl, Or.inr rfl, Or.inl rfl, Or.inr rfl, trivial⟩ (ihlp4_4 (i1) ((i2 + 1)) m3 hIm3 hFm3   (by omega) (by omega) (by omega) (by omega) (by omega))
            · intro h17; omega
          · intro h18
            refine zw_push zr_181_18 ?_
            refine zw_42 zr_181_19 ?_
            refine zw_R zr_181_23 (by decide) zm_181 (v := (0, 1)) (zRetB (by omega)) ?_
            rw [← hQ1]
            show zW E (d) 192 17 [(2, 69), (1, i1), (9, 0), (0, i2)] [(0, 1)] m3 Q
            refine zw_40_1 zr_192_17 ?_ ?_
            · intro h19; omega
            · intro h20
              refine zw_7 zr_192_20 rfl ?_
              refine zw_7 zr_192_21 rfl ?_
              refine zw_3 zr_192_22 rfl ?_
              refine zw_push zr_192_23 ?_
              refine zw_C zr_192_24 (Or.inl rfl) zm_144 rfl rfl ⟨Nat.le_of_ble_eq_true rfl, Nat.le_of_ble_eq_true rfl, Nat.le_of_ble_eq_true rfl, rfl, by decide⟩ (by omega) (P := (fun v m' => zW E (d) 192 27 [(2, 69), (1, i1), (9, 0), (0, i2)] (if v.1 = 9 then [(2, 69)] else v :: [(2, 69)]) m' Q)) ?_ (fun _ _ h => h)
              generalize hQ1 : (fun v m' => zW E (d) 192 27 [(2, 69), (1, i1), (9, 0), (0, i2)] (if v.1 = 9 then [(2, 69)] else v :: [(2, 69)]) m' Q) = Q1
              show zW E (d - 1) 144 0 [(2, 69), (0, i2), (0, 1)] [] m3 Q1
              refine zw_7 zr_144_0 rfl ?_
              refine zw_46r (s := 70) zr_144_1 rfl rfl rfl rfl ?_
              refine zw_push zr_144_4 ?_
              refine zw_push zr_144_6 ?_
              refine zw_3 zr_144_8 rfl ?_
              refine zw_18 zr_144_9 (by omega) ?_
              refine zw_16 zr_144_10 (by omega) ?_
              refine zw_3 zr_144_11 rfl ?_
              refine zw_16 zr_144_12 (by omega) ?_
              refine zw_48 (c := 70) (len := 826) zr_144_13 rfl rfl (by omega) (by omega) ?_
              intro x21 ex21
              have bx21 := ib_70_m1 hIm3 (k := (((90 + (6 * i2)) + 1)).toNat) (by omega)
              rw [← ex21] at bx21
              clear ex21
              refine zw_R zr_144_14 (by decide) zm_144 (v := (0, x21)) rfl ?_
              rw [← hQ1]
              show zW E (d) 192 27 [(2, 69), (1, i1), (9, 0), (0, i2)] [(0, x21), (2, 69)] m3 Q
              refine zw_3 zr_192_27 rfl ?_
              refine zw_C zr_192_28 (Or.inl rfl) zm_188 rfl rfl ⟨Nat.le_of_ble_eq_true rfl, Nat.le_of_ble_eq_true rfl, Nat.le_of_ble_eq_true rfl, rfl, by decide⟩ (by omega) (th_188 (d := d - 1) (by omega) hIm3 (a0 := x21) (a1 := i2) (by omega) (by omega)) ?_
              rintro _ m22 ⟨rfl, hIm22, gm22⟩
              have hFm22 : zFr W_192 m0 m22 := hFm3.trans gm22 rfl
              have km22_70_823 : m22 70 823 = f6 := (gm22 70 823 rfl).trans ef6
              show zW E (d) 192 31 [(2, 69), (1, i1), (9, 0), (0, i2)] [] m22 Q
              refine zw_5 zr_192_31 rfl ?_
              refine zw_7 zr_192_32 rfl ?_
              refine zw_46r (s := 81) zr_192_33 rfl rfl rfl rfl ?_
              refine zw_7 zr_192_36 rfl ?_
              refine zw_3 zr_192_37 rfl ?_
              refine zw_push zr_192_38 ?_
              refine zw_C zr_192_39 (Or.inl rfl) zm_144 rfl rfl ⟨Nat.le_of_ble_eq_true rfl, Nat.le_of_ble_eq_true rfl, Nat.le_of_ble_eq_true rfl, rfl, by decide⟩ (by omega) (P := (fun v m' => zW E (d) 192 42 [(2, 69), (1, i1), (9, 0), (0, i2)] (if v.1 = 9 then [(2, 81), (1, i1)] else v :: [(2, 81), (1, i1)]) m' Q)) ?_ (fun _ _ h => h)
              generalize hQ1 : (fun v m' => zW E (d) 192 42 [(2, 69), (1, i1), (9, 0), (0, i2)] (if v.1 = 9 then [(2, 81), (1, i1)] else v :: [(2, 81), (1, i1)]) m' Q) = Q1
              show zW E (d - 1) 144 0 [(2, 69), (0, i2), (0, 2)] [] m22 Q1
              refine zw_7 zr_144_0 rfl ?_
              refine zw_46r (s := 70) zr_144_1 rfl rfl rfl rfl ?_
              refine zw_push zr_144_4 ?_
              refine zw_push zr_144_6 ?_
              refine zw_3 zr_144_8 rfl ?_
              refine zw_18 zr_144_9 (by omega) ?_
              refine zw_16 zr_144_10 (by omega) ?_
              refine zw_3 zr_144_11 rfl ?_
              refine zw_16 zr_144_12 (by omega) ?_
              refine zw_48 (c := 70) (len := 826) zr_144_13 rfl rfl (by omega) (by omega) ?_
              intro x23 ex23
              have bx23 := ib_70_m2 hIm22 (k := (((90 + (6 * i2)) + 2)).toNat) (by omega)
              rw [← ex23] at bx23
              clear ex23
              refine zw_R zr_144_14 (by decide) zm_144 (v := (0, x23)) rfl ?_
              rw [← hQ1]
              show zW E (d) 192 42 [(2, 69), (1, i1), (9, 0), (0, i2)] [(0, x23), (2, 81), (1, i1)] m22 Q
              refine zw_48 (c := 81) (len := 10) zr_192_42 rfl rfl (by omega) (by omega) ?_
              intro x24 ex24
              clear ex24
              refine zw_push zr_192_43 ?_
              refine zw_41_0 zr_192_45 ?_ ?_
              · intro h25
                refine zw_push zr_192_54 ?_
                refine zw_31h zr_192_55 ?_
                intro x26 hx26a hx26b
                refine zw_13 (L' := [(2, 69), (1, x26), (9, 0), (0, i2)]) zr_192_56 (Nat.le_of_ble_eq_true rfl) rfl ?_
                refine zw_15 (c := 1) (L' := [(2, 69), (1, x26), (9, 0), (0, (i2 + 1))]) zr_192_57 rfl (by decide) (by omega) rfl ?_
                refine zw_42 zr_192_60 ?_
                exact zw_less (L := [(2, 69), (1, x26), (9, 0), (0, (i2 + 1))]) ⟨Or.inr rfl, Or.inr rfl, Or.inl rfl, Or.inr rfl, trivial⟩ (ihlp4_4 (x26) ((i2 + 1)) m22 hIm22 hFm22   (by omega) (by omega) (by omega) (by omega) (by omega))
              · intro h27
                refine zw_push zr_192_48 ?_
                refine zw_3 zr_192_49 rfl ?_
                refine zw_33h zr_192_50 ?_
                intro x28 hx28a hx28b
                refine zw_42 zr_192_51 ?_
                refine zw_31h zr_192_55 ?_
                intro x29 hx29a hx29b
                refine zw_13 (L' := [(2, 69), (1, x29), (9, 0), (0, i2)]) zr_192_56 (Nat.le_of_ble_eq_true rfl) rfl ?_
                refine zw_15 (c := 1) (L' := [(2, 69), (1, x29), (9, 0), (0, (i2 + 1))]) zr_192_57 rfl (by decide) (by omega) rfl ?_
                refine zw_42 zr_192_60 ?_
                exact zw_less (L := [(2, 69), (1, x29), (9, 0), (0, (i2 + 1))]) ⟨Or.inr rfl, Or.inr rfl, Or.inl rfl, Or.inr rfl, trivial⟩ (ihlp4_4 (x29) ((i2 + 1)) m22 hIm22 hFm22   (by omega) (by omega) (by omega) (by omega) (by omega))
  exact lp4_4 _ (0) (0) m0 hI0 hF0   (by omega) (by omega) (by omega) (by omega) (Nat.lt_succ_self _)

abbrev W_4_65 : List (Nat × Nat) := [(65, 1000)]
set_option maxHeartbeats 8000000 in
theorem th_4_65 {E : zE} {d : Nat} {m0 : zM} (hd : 1 ≤ d) (hI0 : zInv m0) {a0 : Int} (ha0 : 0 ≤ a0 ∧ a0 ≤ 0) : zC E d 4 [(2, 65), (0, a0)] m0 (fun v m' => v = (9, 0) ∧ zInv m' ∧ zFr W_4_65 m0 m') := by
  have hF0 : zFr W_4_65 m0 m0 := zFr.rfl
  generalize hQ : (fun (v : zV) (m' : zM) => v = (9, 0) ∧ zInv m' ∧ zFr W_4_65 m0 m') = Q
  show zW E d 4 0 [(2, 65), (0, a0), (9, 0), (9, 0)] [] m0 Q
  refine zw_push zr_4_0 ?_
  refine zw_9 (L' := [(2, 65), (0, a0), (0, 0), (9, 0)]) zr_4_1 (Nat.le_of_ble_eq_true rfl) rfl ?_
  refine zw_7 zr_4_2 rfl ?_
  refine zw_101 (c := 65) (len := 100) zr_4_3 rfl rfl (by decide) ?_
  refine zw_9 (L' := [(2, 65), (0, a0), (0, 0), (0, 100)]) zr_4_4 (Nat.le_of_ble_eq_true rfl) rfl ?_
  have lp5_3 : ∀ (nlp5_3 : Nat) (i1 : Int) (m2 : zM), zInv m2 → zFr W_4_65 m0 m2 → 0 ≤ i1 → i1 ≤ 100 → (100 - i1).toNat < nlp5_3 → zW E (d) 4 5 [(2, 65), (0, a0), (0, i1), (0, 100)] [] m2 Q := by
    intro nlp5_3
    induction nlp5_3 with
    | zero =>
      intros
      exact absurd (by assumption : _ < 0) (Nat.not_lt_zero _)
    | succ nlp5_3 ihlp5_3 =>
      intro i1 m2 hIm2 hFm2 li1 ui1 hmlp5_3
      refine zw_3 zr_4_5 rfl ?_
      refine zw_3 zr_4_6 rfl ?_
      refine zw_41_3 zr_4_7 ?_ ?_
      · intro h5
        refine zw_R zr_4_20 (by decide) zm_4 (v := (9, 0)) rfl ?_
        rw [← hQ]; exact ⟨rfl, hIm2, hFm2⟩
      · intro h6
        refine zw_7 zr_4_10 rfl ?_
        refine zw_3 zr_4_11 rfl ?_
        refine zw_3 zr_4_12 rfl ?_
        refine zw_49 (c := 65) (len := 100) zr_4_13 rfl rfl (by omega) (by omega) ?_
        intro m7 em7
        have hIm7 : zInv m7 := by rw [em7]; exact hIm2.any rfl (by decide) (by decide)
        have hFm7 : zFr W_4_65 m0 m7 := by rw [em7]; exact hFm2.any rfl
        clear em7
        refine zw_15 (c := 1) (L' := [(2, 65), (0, a0), (0, (i1 + 1)), (0, 100)]) zr_4_14 rfl (by decide) (by omega) rfl ?_
        refine zw_42 zr_4_17 ?_
        exact zw_less (L := [(2, 65), (0, a0), (0, (i1 + 1)), (0, 100)]) ⟨Or.inr rfl, Or.inr rfl, Or.inr rfl, Or.inr rfl, trivial⟩ (ihlp5_3 ((i1 + 1)) m7 hIm7 hFm7   (by omega) (by omega) (by omega))
  exact lp5_3 _ (0) m0 hI0 hF0   (by omega) (by omega) (Nat.lt_succ_self _)

abbrev W_90 : List (Nat × Nat) := [(65, 1000)]
set_option maxHeartbeats 8000000 in
theorem th_90 {E : zE} {d : Nat} {m0 : zM} (hd : 2 ≤ d) (hI0 : zInv m0) : zC E d 90 [(2, 63)] m0 (fun v m' => v = (9, 0) ∧ zInv m' ∧ zFr W_90 m0 m') := by
  have hF0 : zFr W_90 m0 m0 := zFr.rfl
  generalize hQ : (fun (v : zV) (m' : zM) => v = (9, 0) ∧ zInv m' ∧ zFr W_90 m0 m') = Q
  show zW E d 90 0 [(2, 63), (9, 0), (9, 0), (9, 0)] [] m0 Q
  refine zw_7 zr_90_0 rfl ?_
  refine zw_46r (s := 65) zr_90_1 rfl rfl rfl rfl ?_
  refine zw_push zr_90_4 ?_
  refine zw_C zr_90_5 (Or.inr rfl) zm_4 rfl rfl ⟨Nat.le_of_ble_eq_true rfl, Nat.le_of_ble_eq_true rfl, Nat.le_of_ble_eq_true rfl, rfl, by decide⟩ (by omega) (th_4_65 (d := d - 1) (by omega) hI0 (a0 := 0) (by omega)) ?_
  rintro _ m1 ⟨rfl, hIm1, gm1⟩
  have hFm1 : zFr W_90 m0 m1 := hF0.trans gm1 rfl
  show zW E (d) 90 8 [(2, 63), (9, 0), (9, 0), (9, 0)] [] m1 Q
  refine zw_push zr_90_8 ?_
  refine zw_9 (L' := [(2, 63), (0, 0), (9, 0), (9, 0)]) zr_90_9 (Nat.le_of_ble_eq_true rfl) rfl ?_
  have lp10_4 : ∀ (nlp10_4 : Nat) (i2 : Int) (m3 : zM), zInv m3 → zFr W_90 m0 m3 → 0 ≤ i2 → i2 ≤ 60 → (60 - i2).toNat < nlp10_4 → zW E (d) 90 10 [(2, 63), (0, i2), (9, 0), (9, 0)] [] m3 Q := by
    intro nlp10_4
    induction nlp10_4 with
    | zero =>
      intros
      exact absurd (by assumption : _ < 0) (Nat.not_lt_zero _)
    | succ nlp10_4 ihlp10_4 =>
      intro i2 m3 hIm3 hFm3 li2 ui2 hmlp10_4
      refine zw_3 zr_90_10 rfl ?_
      refine zw_7 zr_90_11 rfl ?_
      refine zw_46r (s := 1) zr_90_12 rfl rfl rfl rfl ?_
      obtain ⟨f6, ef6⟩ : ∃ v, m3 1 1 = v := ⟨_, rfl⟩
      have bf6 := ib_1_1 hIm3
      rw [ef6] at bf6
      refine zw_46i zr_90_15 ef6 rfl rfl rfl ?_
      refine zw_41_3 zr_90_18 ?_ ?_
      · intro h7
        refine zw_R zr_90_108 (by decide) zm_90 (v := (9, 0)) rfl ?_
        rw [← hQ]; exact ⟨rfl, hIm3, hFm3⟩
      · intro h8
        refine zw_7 zr_90_21 rfl ?_
        refine zw_46r (s := 1) zr_90_22 rfl rfl rfl rfl ?_
        refine zw_46r (s := 6) zr_90_25 rfl rfl rfl rfl ?_
        refine zw_3 zr_90_28 rfl ?_
        refine zw_48 (c := 6) (len := 60) zr_90_29 rfl rfl (by omega) (by omega) ?_
        intro x9 ex9
        have bx9 := ib_6 hIm3 (k := (i2).toNat) (by omega)
        rw [← ex9] at bx9
        clear ex9
        refine zw_9 (L' := [(2, 63), (0, i2), (0, x9), (9, 0)]) zr_90_30 (Nat.le_of_ble_eq_true rfl) rfl ?_
        refine zw_7 zr_90_31 rfl ?_
        refine zw_46r (s := 1) zr_90_32 rfl rfl rfl rfl ?_
        refine zw_46r (s := 7) zr_90_35 rfl rfl rfl rfl ?_
        refine zw_3 zr_90_38 rfl ?_
        refine zw_48 (c := 7) (len := 60) zr_90_39 rfl rfl (by omega) (by omega) ?_
        intro x10 ex10
        have bx10 := ib_7 hIm3 (k := (i2).toNat) (by omega)
        rw [← ex10] at bx10
        clear ex10
        refine zw_9 (L' := [(2, 63), (0, i2), (0, x9), (0, x10)]) zr_90_40 (Nat.le_of_ble_eq_true rfl) rfl ?_
        refine zw_7 zr_90_41 rfl ?_
        refine zw_46r (s := 1) zr_90_42 rfl rfl rfl rfl ?_
        refine zw_3 zr_90_45 rfl ?_
        refine zw_C zr_90_46 (Or.inl rfl) zm_18 rfl rfl ⟨Nat.le_of_ble_eq_true rfl, Nat.le_of_ble_eq_true rfl, Nat.le_of_ble_eq_true rfl, rfl, by decide⟩ (by omega) (P := (fun v m' => zW E (d) 90 49 [(2, 63), (0, i2), (0, x9), (0, x10)] (if v.1 = 9 then [] else v :: []) m' Q)) ?_ (fun _ _ h => h)
        generalize hQ1 : (fun v m' => zW E (d) 90 49 [(2, 63), (0, i2), (0, x9), (0, x10)] (if v.1 = 9 then [] else v :: []) m' Q) = Q1
        show zW E (d - 1) 18 0 [(2, 1), (0, i2)] [] m3 Q1
        refine zw_7 zr_18_0 rfl ?_
        obtain ⟨f11, ef11⟩ : ∃ v, m3 1 2 = v := ⟨_, rfl⟩
        refine zw_46l zr_18_1 ef11 rfl rfl rfl ?_
        refine zw_3 zr_18_4 rfl ?_
        refine zw_34h zr_18_5 ?_
        intro x12 hx12a hx12b
        refine zw_push zr_18_6 ?_
        refine zw_30h zr_18_7 ?_
        intro x13 hx13a hx13b
        refine zw_push zr_18_8 ?_
        refine zw_39_1 zr_18_9 zr_18_10 ?_ ?_
        · intro h14
          refine zw_push zr_18_17 ?_
          refine zw_R zr_18_18 (by decide) zm_18 (v := (0, 0)) (zRetB (by omega)) ?_
          rw [← hQ1]
          show zW E (d) 90 49 [(2, 63), (0, i2), (0, x9), (0, x10)] [(0, 0)] m3 Q
          refine zw_40_4 zr_90_49 ?_ ?_
          · intro h15; omega
          · intro h16
            refine zw_7 zr_90_52 rfl ?_
            refine zw_46r (s := 1) zr_90_53 rfl rfl rfl rfl ?_
            refine zw_46r (s := 8) zr_90_56 rfl rfl rfl rfl ?_
            refine zw_3 zr_90_59 rfl ?_
            refine zw_48 (c := 8) (len := 60) zr_90_60 rfl rfl (by omega) (by omega) ?_
            intro x17 ex17
            have bx17 := ib_8 hIm3 (k := (i2).toNat) (by omega)
            rw [← ex17] at bx17
            refine zw_push zr_90_61 ?_
            refine zw_41_1 zr_90_62 ?_ ?_
            · intro h18
              refine zw_15 (c := 1) (L' := [(2, 63), (0, (i2 + 1)), (0, x9), (0, x10)]) zr_90_102 rfl (by decide) (by omega) rfl ?_
              refine zw_42 zr_90_105 ?_
              exact zw_less (L := [(2, 63), (0, (i2 + 1)), (9, 0), (9, 0)]) ⟨Or.inr rfl, Or.inr rfl, Or.inl rfl, Or.inl rfl, trivial⟩ (ihlp10_4 ((i2 + 1)) m3 hIm3 hFm3   (by omega) (by omega) (by omega))
            · intro h19
              refine zw_7 zr_90_65 rfl ?_
              refine zw_46r (s := 65) zr_90_66 rfl rfl rfl rfl ?_
              refine zw_7 zr_90_69 rfl ?_
              refine zw_46r (s := 1) zr_90_70 rfl rfl rfl rfl ?_
              refine zw_46r (s := 8) zr_90_73 rfl rfl rfl rfl ?_
              refine zw_3 zr_90_76 rfl ?_
              refine zw_48k (c := 8) (len := 60) zr_90_77 rfl rfl (by omega) (by omega) rfl ex17.symm ?_
              refine zw_push zr_90_78 ?_
              refine zw_41_4 zr_90_79 ?_ ?_
              · intro h20
                refine zw_3 zr_90_91 rfl ?_
                refine zw_push zr_90_92 ?_
                refine zw_18 zr_90_94 (by omega) ?_
                refine zw_3 zr_90_95 rfl ?_
                refine zw_16 zr_90_96 (by omega) ?_
                refine zw_45 zr_90_97 ⟨rfl, rfl⟩ ?_
                refine zw_48 (c := 65) (len := 100) zr_90_98 rfl rfl (by omega) (by omega) ?_
                intro x21 ex21
                clear ex21
                refine zw_push zr_90_99 ?_
                refine zw_16h zr_90_100 ?_
                intro x22 hx22a hx22b
                refine zw_49 (c := 65) (len := 100) zr_90_101 rfl rfl (by omega) (by omega) ?_
                intro m23 em23
                have hIm23 : zInv m23 := by rw [em23]; exact hIm3.any rfl (by decide) (by decide)
                have hFm23 : zFr W_90 m0 m23 := by rw [em23]; exact hFm3.any rfl
                have km23_1_1 : m23 1 1 = f6 := by rw [em23, zUp_ne (by omega)]; exact ef6
                have km23_1_2 : m23 1 2 = f11 := by rw [em23, zUp_ne (by omega)]; exact ef11
                clear em23
                refine zw_15 (c := 1) (L' := [(2, 63), (0, (i2 + 1)), (0, x9), (0, x10)]) zr_90_102 rfl (by decide) (by omega) rfl ?_
                refine zw_42 zr_90_105 ?_
                exact zw_less (L := [(2, 63), (0, (i2 + 1)), (9, 0), (9, 0)]) ⟨Or.inr rfl, Or.inr rfl, Or.inl rfl, Or.inl rfl, trivial⟩ (ihlp10_4 ((i2 + 1)) m23 hIm23 hFm23   (by omega) (by omega) (by omega))
              · intro h24
                refine zw_3 zr_90_82 rfl ?_
                refine zw_push zr_90_83 ?_
                refine zw_18 zr_90_85 (by omega) ?_
                refine zw_3 zr_90_86 rfl ?_
                refine zw_16 zr_90_87 (by omega) ?_
                refine zw_42 zr_90_88 ?_
                refine zw_45 zr_90_97 ⟨rfl, rfl⟩ ?_
                refine zw_48 (c := 65) (len := 100) zr_90_98 rfl rfl (by omega) (by omega) ?_
                intro x25 ex25
                clear ex25
                refine zw_push zr_90_99 ?_
                refine zw_16h zr_90_100 ?_
                intro x26 hx26a hx26b
                refine zw_49 (c := 65) (len := 100) zr_90_101 rfl rfl (by omega) (by omega) ?_
                intro m27 em27
                have hIm27 : zInv m27 := by rw [em27]; exact hIm3.any rfl (by decide) (by decide)
                have hFm27 : zFr W_90 m0 m27 := by rw [em27]; exact hFm3.any rfl
                have km27_1_1 : m27 1 1 = f6 := by rw [em27, zUp_ne (by omega)]; exact ef6
                have km27_1_2 : m27 1 2 = f11 := by rw [em27, zUp_ne (by omega)]; exact ef11
                clear em27
                refine zw_15 (c := 1) (L' := [(2, 63), (0, (i2 + 1)), (0, x9), (0, x10)]) zr_90_102 rfl (by decide) (by omega) rfl ?_
                refine zw_42 zr_90_105 ?_
                exact zw_less (L := [(2, 63), (0, (i2 + 1)), (9, 0), (9, 0)]) ⟨Or.inr rfl, Or.inr rfl, Or.inl rfl, Or.inl rfl, trivial⟩ (ihlp10_4 ((i2 + 1)) m27 hIm27 hFm27   (by omega) (by omega) (by omega))
        · intro h28
          refine zw_push zr_18_13 ?_
          refine zw_42 zr_18_14 ?_
          refine zw_R zr_18_18 (by decide) zm_18 (v := (0, 1)) (zRetB (by omega)) ?_
          rw [← hQ1]
          show zW E (d) 90 49 [(2, 63), (0, i2), (0, x9), (0, x10)] [(0, 1)] m3 Q
          refine zw_40_4 zr_90_49 ?_ ?_
          · intro h29
            refine zw_15 (c := 1) (L' := [(2, 63), (0, (i2 + 1)), (0, x9), (0, x10)]) zr_90_102 rfl (by decide) (by omega) rfl ?_
            refine zw_42 zr_90_105 ?_
            exact zw_less (L := [(2, 63), (0, (i2 + 1)), (9, 0), (9, 0)]) ⟨Or.inr rfl, Or.inr rfl, Or.inl rfl, Or.inl rfl, trivial⟩ (ihlp10_4 ((i2 + 1)) m3 hIm3 hFm3   (by omega) (by omega) (by omega))
          · intro h30; omega
  exact lp10_4 _ (0) m1 hIm1 hFm1   (by omega) (by omega) (Nat.lt_succ_self _)

set_option maxHeartbeats 8000000 in
theorem th_92 {E : zE} {d : Nat} {m0 : zM} (hd : 2 ≤ d) (hI0 : zInv m0) {a0 : Int} {a1 : Int} {a2 : Int} (ha0 : 0 ≤ a0 ∧ a0 ≤ 9) (ha1 : 1 ≤ a1 ∧ a1 ≤ 9) (ha2 : 1 ≤ a2 ∧ a2 ≤ 9) : zC E d 92 [(2, 63), (0, a0), (0, a1), (0, a2)] m0 (fun v m' => ∃ r : Int, v = (0, r) ∧ 0 ≤ r ∧ r ≤ 1 ∧ m' = m0) := by
  generalize hQ : (fun (v : zV) (m' : zM) => ∃ r : Int, v = (0, r) ∧ 0 ≤ r ∧ r ≤ 1 ∧ m' = m0) = Q
  show zW E d 92 0 [(2, 63), (0, a0), (0, a1), (0, a2), (9, 0)] [] m0 Q
  refine zw_7 zr_92_0 rfl ?_
  refine zw_3 zr_92_1 rfl ?_
  refine zw_3 zr_92_2 rfl ?_
  refine zw_C zr_92_3 (Or.inl rfl) zm_91 rfl rfl ⟨Nat.le_of_ble_eq_true rfl, Nat.le_of_ble_eq_true rfl, Nat.le_of_ble_eq_true rfl, rfl, by decide⟩ (by omega) (P := (fun v m' => zW E (d) 92 6 [(2, 63), (0, a0), (0, a1), (0, a2), (9, 0)] (if v.1 = 9 then [] else v :: []) m' Q)) ?_ (fun _ _ h => h)
  generalize hQ1 : (fun v m' => zW E (d) 92 6 [(2, 63), (0, a0), (0, a1), (0, a2), (9, 0)] (if v.1 = 9 then [] else v :: []) m' Q) = Q1
  show zW E (d - 1) 91 0 [(2, 63), (0, a0), (0, a1)] [] m0 Q1
  refine zw_7 zr_91_0 rfl ?_
  refine zw_46r (s := 65) zr_91_1 rfl rfl rfl rfl ?_
  refine zw_3 zr_91_4 rfl ?_
  refine zw_push zr_91_5 ?_
  refine zw_18 zr_91_7 (by omega) ?_
  refine zw_3 zr_91_8 rfl ?_
  refine zw_16 zr_91_9 (by omega) ?_
  refine zw_48 (c := 65) (len := 100) zr_91_10 rfl rfl (by omega) (by omega) ?_
  intro x1 ex1
  clear ex1
  refine zw_R zr_91_11 (by decide) zm_91 (v := (0, x1)) rfl ?_
  rw [← hQ1]
  show zW E (d) 92 6 [(2, 63), (0, a0), (0, a1), (0, a2), (9, 0)] [(0, x1)] m0 Q
  refine zw_40_5 zr_92_6 ?_ ?_
  · intro h2
    refine zw_push zr_92_31 ?_
    refine zw_10 (L' := [(2, 63), (0, a0), (0, a1), (0, a2), (0, 0)]) zr_92_32 (Nat.le_of_ble_eq_true rfl) rfl ?_
    refine zw_4 zr_92_34 rfl ?_
    refine zw_40_1 zr_92_36 ?_ ?_
    · intro h3
      refine zw_push zr_92_43 ?_
      refine zw_R zr_92_44 (by decide) zm_92 (v := (0, 0)) rfl ?_
      rw [← hQ]; exact ⟨_, rfl, by omega, by omega, rfl⟩
    · intro h4; omega
  · intro h5
    refine zw_7 zr_92_9 rfl ?_
    refine zw_3 zr_92_10 rfl ?_
    refine zw_3 zr_92_11 rfl ?_
    refine zw_C zr_92_12 (Or.inl rfl) zm_91 rfl rfl ⟨Nat.le_of_ble_eq_true rfl, Nat.le_of_ble_eq_true rfl, Nat.le_of_ble_eq_true rfl, rfl, by decide⟩ (by omega) (P := (fun v m' => zW E (d) 92 15 [(2, 63), (0, a0), (0, a1), (0, a2), (9, 0)] (if v.1 = 9 then [] else v :: []) m' Q)) ?_ (fun _ _ h => h)
    generalize hQ1 : (fun v m' => zW E (d) 92 15 [(2, 63), (0, a0), (0, a1), (0, a2), (9, 0)] (if v.1 = 9 then [] else v :: []) m' Q) = Q1
    show zW E (d - 1) 91 0 [(2, 63), (0, a1), (0, a2)] [] m0 Q1
    refine zw_7 zr_91_0 rfl ?_
    refine zw_46r (s := 65) zr_91_1 rfl rfl rfl rfl ?_
    refine zw_3 zr_91_4 rfl ?_
    refine zw_push zr_91_5 ?_
    refine zw_18 zr_91_7 (by omega) ?_
    refine zw_3 zr_91_8 rfl ?_
    refine zw_16 zr_91_9 (by omega) ?_
    refine zw_48 (c := 65) (len := 100) zr_91_10 rfl rfl (by omega) (by omega) ?_
    intro x6 ex6
    clear ex6
    refine zw_R zr_91_11 (by decide) zm_91 (v := (0, x6)) rfl ?_
    rw [← hQ1]
    show zW E (d) 92 15 [(2, 63), (0, a0), (0, a1), (0, a2), (9, 0)] [(0, x6)] m0 Q
    refine zw_40_5 zr_92_15 ?_ ?_
    · intro h7
      refine zw_push zr_92_31 ?_
      refine zw_10 (L' := [(2, 63), (0, a0), (0, a1), (0, a2), (0, 0)]) zr_92_32 (Nat.le_of_ble_eq_true rfl) rfl ?_
      refine zw_4 zr_92_34 rfl ?_
      refine zw_40_1 zr_92_36 ?_ ?_
      · intro h8
        refine zw_push zr_92_43 ?_
        refine zw_R zr_92_44 (by decide) zm_92 (v := (0, 0)) rfl ?_
        rw [← hQ]; exact ⟨_, rfl, by omega, by omega, rfl⟩
      · intro h9; omega
    · intro h10
      refine zw_7 zr_92_18 rfl ?_
      refine zw_3 zr_92_19 rfl ?_
      refine zw_3 zr_92_20 rfl ?_
      refine zw_C zr_92_21 (Or.inl rfl) zm_91 rfl rfl ⟨Nat.le_of_ble_eq_true rfl, Nat.le_of_ble_eq_true rfl, Nat.le_of_ble_eq_true rfl, rfl, by decide⟩ (by omega) (P := (fun v m' => zW E (d) 92 24 [(2, 63), (0, a0), (0, a1), (0, a2), (9, 0)] (if v.1 = 9 then [] else v :: []) m' Q)) ?_ (fun _ _ h => h)
      generalize hQ1 : (fun v m' => zW E (d) 92 24 [(2, 63), (0, a0), (0, a1), (0, a2), (9, 0)] (if v.1 = 9 then [] else v :: []) m' Q) = Q1
      show zW E (d - 1) 91 0 [(2, 63), (0, a2), (0, a0)] [] m0 Q1
      refine zw_7 zr_91_0 rfl ?_
      refine zw_46r (s := 65) zr_91_1 rfl rfl rfl rfl ?_
      refine zw_3 zr_91_4 rfl ?_
      refine zw_push zr_91_5 ?_
      refine zw_18 zr_91_7 (by omega) ?_
      refine zw_3 zr_91_8 rfl ?_
      refine zw_16 zr_91_9 (by omega) ?_
      refine zw_48 (c := 65) (len := 100) zr_91_10 rfl rfl (by omega) (by omega) ?_
      intro x11 ex11
      clear ex11
      refine zw_R zr_91_11 (by decide) zm_91 (v := (0, x11)) rfl ?_
      rw [← hQ1]
      show zW E (d) 92 24 [(2, 63), (0, a0), (0, a1), (0, a2), (9, 0)] [(0, x11)] m0 Q
      refine zw_40_5 zr_92_24 ?_ ?_
      · intro h12
        refine zw_push zr_92_31 ?_
        refine zw_10 (L' := [(2, 63), (0, a0), (0, a1), (0, a2), (0, 0)]) zr_92_32 (Nat.le_of_ble_eq_true rfl) rfl ?_
        refine zw_4 zr_92_34 rfl ?_
        refine zw_40_1 zr_92_36 ?_ ?_
        · intro h13
          refine zw_push zr_92_43 ?_
          refine zw_R zr_92_44 (by decide) zm_92 (v := (0, 0)) rfl ?_
          rw [← hQ]; exact ⟨_, rfl, by omega, by omega, rfl⟩
        · intro h14; omega
      · intro h15
        refine zw_push zr_92_27 ?_
        refine zw_42 zr_92_28 ?_
        refine zw_10 (L' := [(2, 63), (0, a0), (0, a1), (0, a2), (0, 1)]) zr_92_32 (Nat.le_of_ble_eq_true rfl) rfl ?_
        refine zw_4 zr_92_34 rfl ?_
        refine zw_40_1 zr_92_36 ?_ ?_
        · intro h16; omega
        · intro h17
          refine zw_push zr_92_39 ?_
          refine zw_42 zr_92_40 ?_
          refine zw_R zr_92_44 (by decide) zm_92 (v := (0, 1)) rfl ?_
          rw [← hQ]; exact ⟨_, rfl, by omega, by omega, rfl⟩

abbrev W_93 : List (Nat × Nat) := [(65, 1000)]
set_option maxHeartbeats 8000000 in
theorem th_93 {E : zE} {d : Nat} {m0 : zM} (hd : 3 ≤ d) (hI0 : zInv m0) : zC E d 93 [(2, 63)] m0 (fun v m' => ∃ r : Int, v = (0, r) ∧ (-2147483648) ≤ r ∧ r ≤ 2147483647 ∧ zInv m' ∧ zFr W_93 m0 m') := by
  have hF0 : zFr W_93 m0 m0 := zFr.rfl
  generalize hQ : (fun (v : zV) (m' : zM) => ∃ r : Int, v = (0, r) ∧ (-2147483648) ≤ r ∧ r ≤ 2147483647 ∧ zInv m' ∧ zFr W_93 m0 m') = Q
  show zW E d 93 0 [(2, 63), (9, 0), (9, 0), (9, 0), (9, 0)] [] m0 Q
  refine zw_7 zr_93_0 rfl ?_
  refine zw_C zr_93_1 (Or.inl rfl) zm_90 rfl rfl ⟨Nat.le_of_ble_eq_true rfl, Nat.le_of_ble_eq_true rfl, Nat.le_of_ble_eq_true rfl, rfl, by decide⟩ (by omega) (th_90 (d := d - 1) (by omega) hI0  ) ?_
  rintro _ m1 ⟨rfl, hIm1, gm1⟩
  have hFm1 : zFr W_93 m0 m1 := hF0.trans gm1 rfl
  show zW E (d) 93 4 [(2, 63), (9, 0), (9, 0), (9, 0), (9, 0)] [] m1 Q
  refine zw_push zr_93_4 ?_
  refine zw_9 (L' := [(2, 63), (0, 0), (9, 0), (9, 0), (9, 0)]) zr_93_5 (Nat.le_of_ble_eq_true rfl) rfl ?_
  refine zw_push zr_93_6 ?_
  refine zw_9 (L' := [(2, 63), (0, 0), (0, 0), (9, 0), (9, 0)]) zr_93_7 (Nat.le_of_ble_eq_true rfl) rfl ?_
  have lp8_4 : ∀ (nlp8_4 : Nat) (i2 i3 : Int), (-2147483648) ≤ i2 → i2 ≤ 2147483647 → 0 ≤ i3 → i3 ≤ 10 → (10 - i3).toNat < nlp8_4 → zW E (d) 93 8 [(2, 63), (0, i2), (0, i3), (9, 0), (9, 0)] [] m1 Q := by
    intro nlp8_4
    induction nlp8_4 with
    | zero =>
      intros
      exact absurd (by assumption : _ < 0) (Nat.not_lt_zero _)
    | succ nlp8_4 ihlp8_4 =>
      intro i2 i3 li2 ui2 li3 ui3 hmlp8_4
      refine zw_3 zr_93_8 rfl ?_
      refine zw_7 zr_93_9 rfl ?_
      refine zw_46r (s := 1) zr_93_10 rfl rfl rfl rfl ?_
      obtain ⟨f6, ef6⟩ : ∃ v, m1 1 0 = v := ⟨_, rfl⟩
      have bf6 := ib_1_0 hIm1
      rw [ef6] at bf6
      refine zw_46i zr_93_13 ef6 rfl rfl rfl ?_
      refine zw_41_3 zr_93_16 ?_ ?_
      · intro h7
        refine zw_3 zr_93_89 rfl ?_
        refine zw_R zr_93_90 (by decide) zm_93 (v := (0, i2)) rfl ?_
        rw [← hQ]; exact ⟨_, rfl, by omega, by omega, hIm1, hFm1⟩
      · intro h8
        refine zw_3 zr_93_19 rfl ?_
        refine zw_push zr_93_20 ?_
        refine zw_16 zr_93_21 (by omega) ?_
        refine zw_9 (L' := [(2, 63), (0, i2), (0, i3), (0, (i3 + 1)), (9, 0)]) zr_93_22 (Nat.le_of_ble_eq_true rfl) rfl ?_
        have lp23_11 : ∀ (nlp23_11 : Nat) (i9 i10 : Int), (-2147483648) ≤ i9 → i9 ≤ 2147483647 → 1 ≤ i10 → i10 ≤ 10 → (10 - i10).toNat < nlp23_11 → zW E (d) 93 23 [(2, 63), (0, i9), (0, i3), (0, i10), (9, 0)] [] m1 Q := by
          intro nlp23_11
          induction nlp23_11 with
          | zero =>
            intros
            exact absurd (by assumption : _ < 0) (Nat.not_lt_zero _)
          | succ nlp23_11 ihlp23_11 =>
            intro i9 i10 li9 ui9 li10 ui10 hmlp23_11
            refine zw_3 zr_93_23 rfl ?_
            refine zw_7 zr_93_24 rfl ?_
            refine zw_46r (s := 1) zr_93_25 rfl rfl rfl rfl ?_
            refine zw_46i zr_93_28 ef6 rfl rfl rfl ?_
            refine zw_41_3 zr_93_31 ?_ ?_
            · intro h13
              refine zw_15 (c := 1) (L' := [(2, 63), (0, i9), (0, (i3 + 1)), (0, i10), (9, 0)]) zr_93_83 rfl (by decide) (by omega) rfl ?_
              refine zw_42 zr_93_86 ?_
              exact zw_less (L := [(2, 63), (0, i9), (0, (i3 + 1)), (9, 0), (9, 0)]) ⟨Or.inr rfl, Or.inr rfl, Or.inr rfl, Or.inl rfl, Or.inl rfl, trivial⟩ (ihlp8_4 (i9) ((i3 + 1))  (by omega) (by omega) (by omega) (by omega) (by omega))
            · intro h14
              refine zw_3 zr_93_34 rfl ?_
              refine zw_push zr_93_35 ?_
              refine zw_16 zr_93_36 (by omega) ?_
              refine zw_10 (L' := [(2, 63), (0, i9), (0, i3), (0, i10), (0, (i10 + 1))]) zr_93_37 (Nat.le_of_ble_eq_true rfl) rfl ?_
              have lp39_17 : ∀ (nlp39_17 : Nat) (i15 i16 : Int), (-2147483648) ≤ i15 → i15 ≤ 2147483647 → 2 ≤ i16 → i16 ≤ 10 → (10 - i16).toNat < nlp39_17 → zW E (d) 93 39 [(2, 63), (0, i15), (0, i3), (0, i10), (0, i16)] [] m1 Q := by
                intro nlp39_17
                induction nlp39_17 with
                | zero =>
                  intros
                  exact absurd (by assumption : _ < 0) (Nat.not_lt_zero _)
                | succ nlp39_17 ihlp39_17 =>
                  intro i15 i16 li15 ui15 li16 ui16 hmlp39_17
                  refine zw_4 zr_93_39 rfl ?_
                  refine zw_7 zr_93_41 rfl ?_
                  refine zw_46r (s := 1) zr_93_42 rfl rfl rfl rfl ?_
                  refine zw_46i zr_93_45 ef6 rfl rfl rfl ?_
                  refine zw_41_3 zr_93_48 ?_ ?_
                  · intro h19
                    refine zw_15 (c := 1) (L' := [(2, 63), (0, i15), (0, i3), (0, (i10 + 1)), (0, i16)]) zr_93_77 rfl (by decide) (by omega) rfl ?_
                    refine zw_42 zr_93_80 ?_
                    exact zw_less (L := [(2, 63), (0, i15), (0, i3), (0, (i10 + 1)), (9, 0)]) ⟨Or.inr rfl, Or.inr rfl, Or.inr rfl, Or.inr rfl, Or.inl rfl, trivial⟩ (ihlp23_11 (i15) ((i10 + 1))  (by omega) (by omega) (by omega) (by omega) (by omega))
                  · intro h20
                    refine zw_3 zr_93_51 rfl ?_
                    refine zw_7 zr_93_52 rfl ?_
                    refine zw_3 zr_93_53 rfl ?_
                    refine zw_3 zr_93_54 rfl ?_
                    refine zw_4 zr_93_55 rfl ?_
                    refine zw_C zr_93_57 (Or.inl rfl) zm_92 rfl rfl ⟨Nat.le_of_ble_eq_true rfl, Nat.le_of_ble_eq_true rfl, Nat.le_of_ble_eq_true rfl, rfl, by decide⟩ (by omega) (th_92 (d := d - 1) (by omega) hIm1 (a0 := i3) (a1 := i10) (a2 := i16) (by omega) (by omega) (by omega)) ?_
                    rintro _ _ ⟨r21, rfl, hr21a, hr21b, rfl⟩
                    show zW E (d) 93 60 [(2, 63), (0, i15), (0, i3), (0, i10), (0, i16)] [(0, r21), (0, i15)] m1 Q
                    refine zw_7 zr_93_60 rfl ?_
                    refine zw_3 zr_93_61 rfl ?_
                    refine zw_4 zr_93_62 rfl ?_
                    refine zw_3 zr_93_64 rfl ?_
                    refine zw_C zr_93_65 (Or.inl rfl) zm_92 rfl rfl ⟨Nat.le_of_ble_eq_true rfl, Nat.le_of_ble_eq_true rfl, Nat.le_of_ble_eq_true rfl, rfl, by decide⟩ (by omega) (th_92 (d := d - 1) (by omega) hIm1 (a0 := i3) (a1 := i16) (a2 := i10) (by omega) (by omega) (by omega)) ?_
                    rintro _ _ ⟨r22, rfl, hr22a, hr22b, rfl⟩
                    show zW E (d) 93 68 [(2, 63), (0, i15), (0, i3), (0, i10), (0, i16)] [(0, r22), (0, r21), (0, i15)] m1 Q
                    refine zw_16 zr_93_68 (by omega) ?_
                    refine zw_16h zr_93_69 ?_
                    intro x23 hx23a hx23b
                    refine zw_9 (L' := [(2, 63), (0, x23), (0, i3), (0, i10), (0, i16)]) zr_93_70 (Nat.le_of_ble_eq_true rfl) rfl ?_
                    refine zw_15 (c := 1) (L' := [(2, 63), (0, x23), (0, i3), (0, i10), (0, (i16 + 1))]) zr_93_71 rfl (by decide) (by omega) rfl ?_
                    refine zw_42 zr_93_74 ?_
                    exact zw_less (L := [(2, 63), (0, x23), (0, i3), (0, i10), (0, (i16 + 1))]) ⟨Or.inr rfl, Or.inr rfl, Or.inr rfl, Or.inr rfl, Or.inr rfl, trivial⟩ (ihlp39_17 (x23) ((i16 + 1))  (by omega) (by omega) (by omega) (by omega) (by omega))
              exact lp39_17 _ (i9) ((i10 + 1))  (by omega) (by omega) (by omega) (by omega) (Nat.lt_succ_self _)
        exact lp23_11 _ (i2) ((i3 + 1))  (by omega) (by omega) (by omega) (by omega) (Nat.lt_succ_self _)
  exact lp8_4 _ (0) (0)  (by omega) (by omega) (by omega) (by omega) (Nat.lt_succ_self _)

abbrev W_124 : List (Nat × Nat) := [(65, 1000)]
set_option maxHeartbeats 8000000 in
theorem th_124 {E : zE} {d : Nat} {m0 : zM} (hd : 4 ≤ d) (hI0 : zInv m0) : zC E d 124 [(2, 0)] m0 (fun v m' => ∃ r : Int, v = (0, r) ∧ (-2147483648) ≤ r ∧ r ≤ 2147483647 ∧ zInv m' ∧ zFr W_124 m0 m') := by
  have hF0 : zFr W_124 m0 m0 := zFr.rfl
  generalize hQ : (fun (v : zV) (m' : zM) => ∃ r : Int, v = (0, r) ∧ (-2147483648) ≤ r ∧ r ≤ 2147483647 ∧ zInv m' ∧ zFr W_124 m0 m') = Q
  show zW E d 124 0 [(2, 0)] [] m0 Q
  refine zw_7 zr_124_0 rfl ?_
  refine zw_46r (s := 63) zr_124_1 rfl rfl rfl rfl ?_
  refine zw_C zr_124_4 (Or.inl rfl) zm_93 rfl rfl ⟨Nat.le_of_ble_eq_true rfl, Nat.le_of_ble_eq_true rfl, Nat.le_of_ble_eq_true rfl, rfl, by decide⟩ (by omega) (th_93 (d := d - 1) (by omega) hI0  ) ?_
  rintro _ m1 ⟨r2, rfl, hr2a, hr2b, hIm1, gm1⟩
  have hFm1 : zFr W_124 m0 m1 := hF0.trans gm1 rfl
  show zW E (d) 124 7 [(2, 0)] [(0, r2)] m1 Q
  refine zw_R zr_124_7 (by decide) zm_124 (v := (0, r2)) rfl ?_
  rw [← hQ]; exact ⟨_, rfl, by omega, by omega, hIm1, hFm1⟩

set_option maxHeartbeats 8000000 in
theorem th_197 {E : zE} {d : Nat} {m0 : zM} (hd : 2 ≤ d) (hI0 : zInv m0) {a0 : Int} {a1 : Int} (ha0 : 0 ≤ a0 ∧ a0 ≤ 9) (ha1 : 0 ≤ a1 ∧ a1 ≤ 9) : zC E d 197 [(2, 69), (0, a0), (0, a1)] m0 (fun v m' => ∃ r : Int, v = (0, r) ∧ 0 ≤ r ∧ r ≤ 1 ∧ m' = m0) := by
  generalize hQ : (fun (v : zV) (m' : zM) => ∃ r : Int, v = (0, r) ∧ 0 ≤ r ∧ r ≤ 1 ∧ m' = m0) = Q
  show zW E d 197 0 [(2, 69), (0, a0), (0, a1), (9, 0), (9, 0), (9, 0)] [] m0 Q
  refine zw_push zr_197_0 ?_
  refine zw_9 (L' := [(2, 69), (0, a0), (0, a1), (0, 0), (9, 0), (9, 0)]) zr_197_1 (Nat.le_of_ble_eq_true rfl) rfl ?_
  refine zw_push zr_197_2 ?_
  refine zw_10 (L' := [(2, 69), (0, a0), (0, a1), (0, 0), (0, 0), (9, 0)]) zr_197_3 (Nat.le_of_ble_eq_true rfl) rfl ?_
  have lp5_3 : ∀ (nlp5_3 : Nat) (i1 i2 : Int), 0 ≤ i1 → i1 ≤ 1 → 0 ≤ i2 → i2 ≤ 60 → (60 - i2).toNat < nlp5_3 → zW E (d) 197 5 [(2, 69), (0, a0), (0, a1), (0, i1), (0, i2), (9, 0)] [] m0 Q := by
    intro nlp5_3
    induction nlp5_3 with
    | zero =>
      intros
      exact absurd (by assumption : _ < 0) (Nat.not_lt_zero _)
    | succ nlp5_3 ihlp5_3 =>
      intro i1 i2 li1 ui1 li2 ui2 hmlp5_3
      refine zw_4 zr_197_5 rfl ?_
      refine zw_7 zr_197_7 rfl ?_
      refine zw_C zr_197_8 (Or.inl rfl) zm_142 rfl rfl ⟨Nat.le_of_ble_eq_true rfl, Nat.le_of_ble_eq_true rfl, Nat.le_of_ble_eq_true rfl, rfl, by decide⟩ (by omega) (P := (fun v m' => zW E (d) 197 11 [(2, 69), (0, a0), (0, a1), (0, i1), (0, i2), (9, 0)] (if v.1 = 9 then [(0, i2)] else v :: [(0, i2)]) m' Q)) ?_ (fun _ _ h => h)
      generalize hQ1 : (fun v m' => zW E (d) 197 11 [(2, 69), (0, a0), (0, a1), (0, i1), (0, i2), (9, 0)] (if v.1 = 9 then [(0, i2)] else v :: [(0, i2)]) m' Q) = Q1
      show zW E (d - 1) 142 0 [(2, 69)] [] m0 Q1
      refine zw_7 zr_142_0 rfl ?_
      refine zw_46r (s := 70) zr_142_1 rfl rfl rfl rfl ?_
      refine zw_push zr_142_4 ?_
      obtain ⟨f5, ef5⟩ : ∃ v, m0 70 823 = v := ⟨_, rfl⟩
      have bf5 : 0 ≤ m0 70 823 ∧ m0 70 823 ≤ 60 := ib_70_meetings hI0 (by omega)
      rw [ef5] at bf5
      refine zw_48k (c := 70) (len := 826) zr_142_7 rfl rfl (by omega) (by omega) (show (823 : Int).toNat = 823 by omega) ef5 ?_
      refine zw_R zr_142_8 (by decide) zm_142 (v := (0, f5)) rfl ?_
      rw [← hQ1]
      show zW E (d) 197 11 [(2, 69), (0, a0), (0, a1), (0, i1), (0, i2), (9, 0)] [(0, f5), (0, i2)] m0 Q
      refine zw_41_3 zr_197_11 ?_ ?_
      · intro h6
        refine zw_3 zr_197_117 rfl ?_
        refine zw_R zr_197_118 (by decide) zm_197 (v := (0, i1)) (zRetB (by omega)) ?_
        rw [← hQ]; exact ⟨_, rfl, by omega, by omega, rfl⟩
      · intro h7
        refine zw_7 zr_197_14 rfl ?_
        refine zw_4 zr_197_15 rfl ?_
        refine zw_push zr_197_17 ?_
        refine zw_C zr_197_18 (Or.inl rfl) zm_144 rfl rfl ⟨Nat.le_of_ble_eq_true rfl, Nat.le_of_ble_eq_true rfl, Nat.le_of_ble_eq_true rfl, rfl, by decide⟩ (by omega) (P := (fun v m' => zW E (d) 197 21 [(2, 69), (0, a0), (0, a1), (0, i1), (0, i2), (9, 0)] (if v.1 = 9 then [] else v :: []) m' Q)) ?_ (fun _ _ h => h)
        generalize hQ1 : (fun v m' => zW E (d) 197 21 [(2, 69), (0, a0), (0, a1), (0, i1), (0, i2), (9, 0)] (if v.1 = 9 then [] else v :: []) m' Q) = Q1
        show zW E (d - 1) 144 0 [(2, 69), (0, i2), (0, 1)] [] m0 Q1
        refine zw_7 zr_144_0 rfl ?_
        refine zw_46r (s := 70) zr_144_1 rfl rfl rfl rfl ?_
        refine zw_push zr_144_4 ?_
        refine zw_push zr_144_6 ?_
        refine zw_3 zr_144_8 rfl ?_
        refine zw_18 zr_144_9 (by omega) ?_
        refine zw_16 zr_144_10 (by omega) ?_
        refine zw_3 zr_144_11 rfl ?_
        refine zw_16 zr_144_12 (by omega) ?_
        refine zw_48 (c := 70) (len := 826) zr_144_13 rfl rfl (by omega) (by omega) ?_
        intro x8 ex8
        have bx8 := ib_70_m1 hI0 (k := (((90 + (6 * i2)) + 1)).toNat) (by omega)
        rw [← ex8] at bx8
        refine zw_R zr_144_14 (by decide) zm_144 (v := (0, x8)) rfl ?_
        rw [← hQ1]
        show zW E (d) 197 21 [(2, 69), (0, a0), (0, a1), (0, i1), (0, i2), (9, 0)] [(0, x8)] m0 Q
        refine zw_3 zr_197_21 rfl ?_
        refine zw_41_4 zr_197_22 ?_ ?_
        · intro h9
          refine zw_7 zr_197_47 rfl ?_
          refine zw_4 zr_197_48 rfl ?_
          refine zw_push zr_197_50 ?_
          refine zw_C zr_197_51 (Or.inl rfl) zm_144 rfl rfl ⟨Nat.le_of_ble_eq_true rfl, Nat.le_of_ble_eq_true rfl, Nat.le_of_ble_eq_true rfl, rfl, by decide⟩ (by omega) (P := (fun v m' => zW E (d) 197 54 [(2, 69), (0, a0), (0, a1), (0, i1), (0, i2), (9, 0)] (if v.1 = 9 then [] else v :: []) m' Q)) ?_ (fun _ _ h => h)
          generalize hQ1 : (fun v m' => zW E (d) 197 54 [(2, 69), (0, a0), (0, a1), (0, i1), (0, i2), (9, 0)] (if v.1 = 9 then [] else v :: []) m' Q) = Q1
          show zW E (d - 1) 144 0 [(2, 69), (0, i2), (0, 1)] [] m0 Q1
          refine zw_7 zr_144_0 rfl ?_
          refine zw_46r (s := 70) zr_144_1 rfl rfl rfl rfl ?_
          refine zw_push zr_144_4 ?_
          refine zw_push zr_144_6 ?_
          refine zw_3 zr_144_8 rfl ?_
          refine zw_18 zr_144_9 (by omega) ?_
          refine zw_16 zr_144_10 (by omega) ?_
          refine zw_3 zr_144_11 rfl ?_
          refine zw_16 zr_144_12 (by omega) ?_
          refine zw_48k (c := 70) (len := 826) zr_144_13 rfl rfl (by omega) (by omega) rfl ex8.symm ?_
          refine zw_R zr_144_14 (by decide) zm_144 (v := (0, x8)) rfl ?_
          rw [← hQ1]
          show zW E (d) 197 54 [(2, 69), (0, a0), (0, a1), (0, i1), (0, i2), (9, 0)] [(0, x8)] m0 Q
          refine zw_3 zr_197_54 rfl ?_
          refine zw_41_4 zr_197_55 ?_ ?_
          · intro h10
            refine zw_push zr_197_83 ?_
            refine zw_10 (L' := [(2, 69), (0, a0), (0, a1), (0, i1), (0, i2), (0, 0)]) zr_197_84 (Nat.le_of_ble_eq_true rfl) rfl ?_
            refine zw_3 zr_197_86 rfl ?_
            refine zw_40_4 zr_197_87 ?_ ?_
            · intro h11
              refine zw_push zr_197_105 ?_
              refine zw_42 zr_197_106 ?_
              refine zw_9 (L' := [(2, 69), (0, a0), (0, a1), (0, 1), (0, i2), (0, 0)]) zr_197_110 (Nat.le_of_ble_eq_true rfl) rfl ?_
              refine zw_15 (c := 1) (L' := [(2, 69), (0, a0), (0, a1), (0, 1), (0, (i2 + 1)), (0, 0)]) zr_197_111 rfl (by decide) (by omega) rfl ?_
              refine zw_42 zr_197_114 ?_
              exact zw_less (L := [(2, 69), (0, a0), (0, a1), (0, 1), (0, (i2 + 1)), (9, 0)]) ⟨Or.inr rfl, Or.inr rfl, Or.inr rfl, Or.inr rfl, Or.inr rfl, Or.inl rfl, trivial⟩ (ihlp5_3 (1) ((i2 + 1))  (by omega) (by omega) (by omega) (by omega) (by omega))
            · intro h12
              refine zw_4 zr_197_90 rfl ?_
              refine zw_40_1 zr_197_92 ?_ ?_
              · intro h13
                refine zw_push zr_197_109 ?_
                refine zw_9 (L' := [(2, 69), (0, a0), (0, a1), (0, 0), (0, i2), (0, 0)]) zr_197_110 (Nat.le_of_ble_eq_true rfl) rfl ?_
                refine zw_15 (c := 1) (L' := [(2, 69), (0, a0), (0, a1), (0, 0), (0, (i2 + 1)), (0, 0)]) zr_197_111 rfl (by decide) (by omega) rfl ?_
                refine zw_42 zr_197_114 ?_
                exact zw_less (L := [(2, 69), (0, a0), (0, a1), (0, 0), (0, (i2 + 1)), (9, 0)]) ⟨Or.inr rfl, Or.inr rfl, Or.inr rfl, Or.inr rfl, Or.inr rfl, Or.inl rfl, trivial⟩ (ihlp5_3 (0) ((i2 + 1))  (by omega) (by omega) (by omega) (by omega) (by omega))
              · intro h14; omega
          · intro h15
            refine zw_7 zr_197_58 rfl ?_
            refine zw_4 zr_197_59 rfl ?_
            refine zw_push zr_197_61 ?_
            refine zw_C zr_197_62 (Or.inl rfl) zm_144 rfl rfl ⟨Nat.le_of_ble_eq_true rfl, Nat.le_of_ble_eq_true rfl, Nat.le_of_ble_eq_true rfl, rfl, by decide⟩ (by omega) (P := (fun v m' => zW E (d) 197 65 [(2, 69), (0, a0), (0, a1), (0, i1), (0, i2), (9, 0)] (if v.1 = 9 then [] else v :: []) m' Q)) ?_ (fun _ _ h => h)
            generalize hQ1 : (fun v m' => zW E (d) 197 65 [(2, 69), (0, a0), (0, a1), (0, i1), (0, i2), (9, 0)] (if v.1 = 9 then [] else v :: []) m' Q) = Q1
            show zW E (d - 1) 144 0 [(2, 69), (0, i2), (0, 2)] [] m0 Q1
            refine zw_7 zr_144_0 rfl ?_
            refine zw_46r (s := 70) zr_144_1 rfl rfl rfl rfl ?_
            refine zw_push zr_144_4 ?_
            refine zw_push zr_144_6 ?_
            refine zw_3 zr_144_8 rfl ?_
            refine zw_18 zr_144_9 (by omega) ?_
            refine zw_16 zr_144_10 (by omega) ?_
            refine zw_3 zr_144_11 rfl ?_
            refine zw_16 zr_144_12 (by omega) ?_
            refine zw_48 (c := 70) (len := 826) zr_144_13 rfl rfl (by omega) (by omega) ?_
            intro x16 ex16
            have bx16 := ib_70_m2 hI0 (k := (((90 + (6 * i2)) + 2)).toNat) (by omega)
            rw [← ex16] at bx16
            refine zw_R zr_144_14 (by decide) zm_144 (v := (0, x16)) rfl ?_
            rw [← hQ1]
            show zW E (d) 197 65 [(2, 69), (0, a0), (0, a1), (0, i1), (0, i2), (9, 0)] [(0, x16)] m0 Q
            refine zw_3 zr_197_65 rfl ?_
            refine zw_41_4 zr_197_66 ?_ ?_
            · intro h17
              refine zw_push zr_197_83 ?_
              refine zw_10 (L' := [(2, 69), (0, a0), (0, a1), (0, i1), (0, i2), (0, 0)]) zr_197_84 (Nat.le_of_ble_eq_true rfl) rfl ?_
              refine zw_3 zr_197_86 rfl ?_
              refine zw_40_4 zr_197_87 ?_ ?_
              · intro h18
                refine zw_push zr_197_105 ?_
                refine zw_42 zr_197_106 ?_
                refine zw_9 (L' := [(2, 69), (0, a0), (0, a1), (0, 1), (0, i2), (0, 0)]) zr_197_110 (Nat.le_of_ble_eq_true rfl) rfl ?_
                refine zw_15 (c := 1) (L' := [(2, 69), (0, a0), (0, a1), (0, 1), (0, (i2 + 1)), (0, 0)]) zr_197_111 rfl (by decide) (by omega) rfl ?_
                refine zw_42 zr_197_114 ?_
                exact zw_less (L := [(2, 69), (0, a0), (0, a1), (0, 1), (0, (i2 + 1)), (9, 0)]) ⟨Or.inr rfl, Or.inr rfl, Or.inr rfl, Or.inr rfl, Or.inr rfl, Or.inl rfl, trivial⟩ (ihlp5_3 (1) ((i2 + 1))  (by omega) (by omega) (by omega) (by omega) (by omega))
              · intro h19
                refine zw_4 zr_197_90 rfl ?_
                refine zw_40_1 zr_197_92 ?_ ?_
                · intro h20
                  refine zw_push zr_197_109 ?_
                  refine zw_9 (L' := [(2, 69), (0, a0), (0, a1), (0, 0), (0, i2), (0, 0)]) zr_197_110 (Nat.le_of_ble_eq_true rfl) rfl ?_
                  refine zw_15 (c := 1) (L' := [(2, 69), (0, a0), (0, a1), (0, 0), (0, (i2 + 1)), (0, 0)]) zr_197_111 rfl (by decide) (by omega) rfl ?_
                  refine zw_42 zr_197_114 ?_
                  exact zw_less (L := [(2, 69), (0, a0), (0, a1), (0, 0), (0, (i2 + 1)), (9, 0)]) ⟨Or.inr rfl, Or.inr rfl, Or.inr rfl, Or.inr rfl, Or.inr rfl, Or.inl rfl, trivial⟩ (ihlp5_3 (0) ((i2 + 1))  (by omega) (by omega) (by omega) (by omega) (by omega))
                · intro h21; omega
            · intro h22
              refine zw_7 zr_197_69 rfl ?_
              refine zw_4 zr_197_70 rfl ?_
              refine zw_push zr_197_72 ?_
              refine zw_C zr_197_73 (Or.inl rfl) zm_144 rfl rfl ⟨Nat.le_of_ble_eq_true rfl, Nat.le_of_ble_eq_true rfl, Nat.le_of_ble_eq_true rfl, rfl, by decide⟩ (by omega) (P := (fun v m' => zW E (d) 197 76 [(2, 69), (0, a0), (0, a1), (0, i1), (0, i2), (9, 0)] (if v.1 = 9 then [] else v :: []) m' Q)) ?_ (fun _ _ h => h)
              generalize hQ1 : (fun v m' => zW E (d) 197 76 [(2, 69), (0, a0), (0, a1), (0, i1), (0, i2), (9, 0)] (if v.1 = 9 then [] else v :: []) m' Q) = Q1
              show zW E (d - 1) 144 0 [(2, 69), (0, i2), (0, 3)] [] m0 Q1
              refine zw_7 zr_144_0 rfl ?_
              refine zw_46r (s := 70) zr_144_1 rfl rfl rfl rfl ?_
              refine zw_push zr_144_4 ?_
              refine zw_push zr_144_6 ?_
              refine zw_3 zr_144_8 rfl ?_
              refine zw_18 zr_144_9 (by omega) ?_
              refine zw_16 zr_144_10 (by omega) ?_
              refine zw_3 zr_144_11 rfl ?_
              refine zw_16 zr_144_12 (by omega) ?_
              refine zw_48 (c := 70) (len := 826) zr_144_13 rfl rfl (by omega) (by omega) ?_
              intro x23 ex23
              have bx23 := ib_70_m3 hI0 (k := (((90 + (6 * i2)) + 3)).toNat) (by omega)
              rw [← ex23] at bx23
              refine zw_R zr_144_14 (by decide) zm_144 (v := (0, x23)) rfl ?_
              rw [← hQ1]
              show zW E (d) 197 76 [(2, 69), (0, a0), (0, a1), (0, i1), (0, i2), (9, 0)] [(0, x23)] m0 Q
              refine zw_40_4 zr_197_76 ?_ ?_
              · intro h24
                refine zw_push zr_197_83 ?_
                refine zw_10 (L' := [(2, 69), (0, a0), (0, a1), (0, i1), (0, i2), (0, 0)]) zr_197_84 (Nat.le_of_ble_eq_true rfl) rfl ?_
                refine zw_3 zr_197_86 rfl ?_
                refine zw_40_4 zr_197_87 ?_ ?_
                · intro h25
                  refine zw_push zr_197_105 ?_
                  refine zw_42 zr_197_106 ?_
                  refine zw_9 (L' := [(2, 69), (0, a0), (0, a1), (0, 1), (0, i2), (0, 0)]) zr_197_110 (Nat.le_of_ble_eq_true rfl) rfl ?_
                  refine zw_15 (c := 1) (L' := [(2, 69), (0, a0), (0, a1), (0, 1), (0, (i2 + 1)), (0, 0)]) zr_197_111 rfl (by decide) (by omega) rfl ?_
                  refine zw_42 zr_197_114 ?_
                  exact zw_less (L := [(2, 69), (0, a0), (0, a1), (0, 1), (0, (i2 + 1)), (9, 0)]) ⟨Or.inr rfl, Or.inr rfl, Or.inr rfl, Or.inr rfl, Or.inr rfl, Or.inl rfl, trivial⟩ (ihlp5_3 (1) ((i2 + 1))  (by omega) (by omega) (by omega) (by omega) (by omega))
                · intro h26
                  refine zw_4 zr_197_90 rfl ?_
                  refine zw_40_1 zr_197_92 ?_ ?_
                  · intro h27
                    refine zw_push zr_197_109 ?_
                    refine zw_9 (L' := [(2, 69), (0, a0), (0, a1), (0, 0), (0, i2), (0, 0)]) zr_197_110 (Nat.le_of_ble_eq_true rfl) rfl ?_
                    refine zw_15 (c := 1) (L' := [(2, 69), (0, a0), (0, a1), (0, 0), (0, (i2 + 1)), (0, 0)]) zr_197_111 rfl (by decide) (by omega) rfl ?_
                    refine zw_42 zr_197_114 ?_
                    exact zw_less (L := [(2, 69), (0, a0), (0, a1), (0, 0), (0, (i2 + 1)), (9, 0)]) ⟨Or.inr rfl, Or.inr rfl, Or.inr rfl, Or.inr rfl, Or.inr rfl, Or.inl rfl, trivial⟩ (ihlp5_3 (0) ((i2 + 1))  (by omega) (by omega) (by omega) (by omega) (by omega))
                  · intro h28; omega
              · intro h29
                refine zw_push zr_197_79 ?_
                refine zw_42 zr_197_80 ?_
                refine zw_10 (L' := [(2, 69), (0, a0), (0, a1), (0, i1), (0, i2), (0, 1)]) zr_197_84 (Nat.le_of_ble_eq_true rfl) rfl ?_
                refine zw_3 zr_197_86 rfl ?_
                refine zw_40_4 zr_197_87 ?_ ?_
                · intro h30
                  refine zw_push zr_197_105 ?_
                  refine zw_42 zr_197_106 ?_
                  refine zw_9 (L' := [(2, 69), (0, a0), (0, a1), (0, 1), (0, i2), (0, 1)]) zr_197_110 (Nat.le_of_ble_eq_true rfl) rfl ?_
                  refine zw_15 (c := 1) (L' := [(2, 69), (0, a0), (0, a1), (0, 1), (0, (i2 + 1)), (0, 1)]) zr_197_111 rfl (by decide) (by omega) rfl ?_
                  refine zw_42 zr_197_114 ?_
                  exact zw_less (L := [(2, 69), (0, a0), (0, a1), (0, 1), (0, (i2 + 1)), (9, 0)]) ⟨Or.inr rfl, Or.inr rfl, Or.inr rfl, Or.inr rfl, Or.inr rfl, Or.inl rfl, trivial⟩ (ihlp5_3 (1) ((i2 + 1))  (by omega) (by omega) (by omega) (by omega) (by omega))
                · intro h31
                  refine zw_4 zr_197_90 rfl ?_
                  refine zw_40_1 zr_197_92 ?_ ?_
                  · intro h32; omega
                  · intro h33
                    refine zw_7 zr_197_95 rfl ?_
                    refine zw_4 zr_197_96 rfl ?_
                    refine zw_push zr_197_98 ?_
                    refine zw_C zr_197_99 (Or.inl rfl) zm_144 rfl rfl ⟨Nat.le_of_ble_eq_true rfl, Nat.le_of_ble_eq_true rfl, Nat.le_of_ble_eq_true rfl, rfl, by decide⟩ (by omega) (P := (fun v m' => zW E (d) 197 102 [(2, 69), (0, a0), (0, a1), (0, i1), (0, i2), (0, 1)] (if v.1 = 9 then [] else v :: []) m' Q)) ?_ (fun _ _ h => h)
                    generalize hQ1 : (fun v m' => zW E (d) 197 102 [(2, 69), (0, a0), (0, a1), (0, i1), (0, i2), (0, 1)] (if v.1 = 9 then [] else v :: []) m' Q) = Q1
                    show zW E (d - 1) 144 0 [(2, 69), (0, i2), (0, 4)] [] m0 Q1
                    refine zw_7 zr_144_0 rfl ?_
                    refine zw_46r (s := 70) zr_144_1 rfl rfl rfl rfl ?_
                    refine zw_push zr_144_4 ?_
                    refine zw_push zr_144_6 ?_
                    refine zw_3 zr_144_8 rfl ?_
                    refine zw_18 zr_144_9 (by omega) ?_
                    refine zw_16 zr_144_10 (by omega) ?_
                    refine zw_3 zr_144_11 rfl ?_
                    refine zw_16 zr_144_12 (by omega) ?_
                    refine zw_48 (c := 70) (len := 826) zr_144_13 rfl rfl (by omega) (by omega) ?_
                    intro x34 ex34
                    have bx34 := ib_70_m4 hI0 (k := (((90 + (6 * i2)) + 4)).toNat) (by omega)
                    rw [← ex34] at bx34
                    refine zw_R zr_144_14 (by decide) zm_144 (v := (0, x34)) rfl ?_
                    rw [← hQ1]
                    show zW E (d) 197 102 [(2, 69), (0, a0), (0, a1), (0, i1), (0, i2), (0, 1)] [(0, x34)] m0 Q
                    refine zw_40_4 zr_197_102 ?_ ?_
                    · intro h35
                      refine zw_push zr_197_109 ?_
                      refine zw_9 (L' := [(2, 69), (0, a0), (0, a1), (0, 0), (0, i2), (0, 1)]) zr_197_110 (Nat.le_of_ble_eq_true rfl) rfl ?_
                      refine zw_15 (c := 1) (L' := [(2, 69), (0, a0), (0, a1), (0, 0), (0, (i2 + 1)), (0, 1)]) zr_197_111 rfl (by decide) (by omega) rfl ?_
                      refine zw_42 zr_197_114 ?_
                      exact zw_less (L := [(2, 69), (0, a0), (0, a1), (0, 0), (0, (i2 + 1)), (9, 0)]) ⟨Or.inr rfl, Or.inr rfl, Or.inr rfl, Or.inr rfl, Or.inr rfl, Or.inl rfl, trivial⟩ (ihlp5_3 (0) ((i2 + 1))  (by omega) (by omega) (by omega) (by omega) (by omega))
                    · intro h36
                      refine zw_push zr_197_105 ?_
                      refine zw_42 zr_197_106 ?_
                      refine zw_9 (L' := [(2, 69), (0, a0), (0, a1), (0, 1), (0, i2), (0, 1)]) zr_197_110 (Nat.le_of_ble_eq_true rfl) rfl ?_
                      refine zw_15 (c := 1) (L' := [(2, 69), (0, a0), (0, a1), (0, 1), (0, (i2 + 1)), (0, 1)]) zr_197_111 rfl (by decide) (by omega) rfl ?_
                      refine zw_42 zr_197_114 ?_
                      exact zw_less (L := [(2, 69), (0, a0), (0, a1), (0, 1), (0, (i2 + 1)), (9, 0)]) ⟨Or.inr rfl, Or.inr rfl, Or.inr rfl, Or.inr rfl, Or.inr rfl, Or.inl rfl, trivial⟩ (ihlp5_3 (1) ((i2 + 1))  (by omega) (by omega) (by omega) (by omega) (by omega))
        · intro h37
          refine zw_7 zr_197_25 rfl ?_
          refine zw_4 zr_197_26 rfl ?_
          refine zw_push zr_197_28 ?_
          refine zw_C zr_197_29 (Or.inl rfl) zm_144 rfl rfl ⟨Nat.le_of_ble_eq_true rfl, Nat.le_of_ble_eq_true rfl, Nat.le_of_ble_eq_true rfl, rfl, by decide⟩ (by omega) (P := (fun v m' => zW E (d) 197 32 [(2, 69), (0, a0), (0, a1), (0, i1), (0, i2), (9, 0)] (if v.1 = 9 then [] else v :: []) m' Q)) ?_ (fun _ _ h => h)
          generalize hQ1 : (fun v m' => zW E (d) 197 32 [(2, 69), (0, a0), (0, a1), (0, i1), (0, i2), (9, 0)] (if v.1 = 9 then [] else v :: []) m' Q) = Q1
          show zW E (d - 1) 144 0 [(2, 69), (0, i2), (0, 2)] [] m0 Q1
          refine zw_7 zr_144_0 rfl ?_
          refine zw_46r (s := 70) zr_144_1 rfl rfl rfl rfl ?_
          refine zw_push zr_144_4 ?_
          refine zw_push zr_144_6 ?_
          refine zw_3 zr_144_8 rfl ?_
          refine zw_18 zr_144_9 (by omega) ?_
          refine zw_16 zr_144_10 (by omega) ?_
          refine zw_3 zr_144_11 rfl ?_
          refine zw_16 zr_144_12 (by omega) ?_
          refine zw_48 (c := 70) (len := 826) zr_144_13 rfl rfl (by omega) (by omega) ?_
          intro x38 ex38
          have bx38 := ib_70_m2 hI0 (k := (((90 + (6 * i2)) + 2)).toNat) (by omega)
          rw [← ex38] at bx38
          refine zw_R zr_144_14 (by decide) zm_144 (v := (0, x38)) rfl ?_
          rw [← hQ1]
          show zW E (d) 197 32 [(2, 69), (0, a0), (0, a1), (0, i1), (0, i2), (9, 0)] [(0, x38)] m0 Q
          refine zw_3 zr_197_32 rfl ?_
          refine zw_41_4 zr_197_33 ?_ ?_
          · intro h39
            refine zw_7 zr_197_47 rfl ?_
            refine zw_4 zr_197_48 rfl ?_
            refine zw_push zr_197_50 ?_
            refine zw_C zr_197_51 (Or.inl rfl) zm_144 rfl rfl ⟨Nat.le_of_ble_eq_true rfl, Nat.le_of_ble_eq_true rfl, Nat.le_of_ble_eq_true rfl, rfl, by decide⟩ (by omega) (P := (fun v m' => zW E (d) 197 54 [(2, 69), (0, a0), (0, a1), (0, i1), (0, i2), (9, 0)] (if v.1 = 9 then [] else v :: []) m' Q)) ?_ (fun _ _ h => h)
            generalize hQ1 : (fun v m' => zW E (d) 197 54 [(2, 69), (0, a0), (0, a1), (0, i1), (0, i2), (9, 0)] (if v.1 = 9 then [] else v :: []) m' Q) = Q1
            show zW E (d - 1) 144 0 [(2, 69), (0, i2), (0, 1)] [] m0 Q1
            refine zw_7 zr_144_0 rfl ?_
            refine zw_46r (s := 70) zr_144_1 rfl rfl rfl rfl ?_
            refine zw_push zr_144_4 ?_
            refine zw_push zr_144_6 ?_
            refine zw_3 zr_144_8 rfl ?_
            refine zw_18 zr_144_9 (by omega) ?_
            refine zw_16 zr_144_10 (by omega) ?_
            refine zw_3 zr_144_11 rfl ?_
            refine zw_16 zr_144_12 (by omega) ?_
            refine zw_48k (c := 70) (len := 826) zr_144_13 rfl rfl (by omega) (by omega) rfl ex8.symm ?_
            refine zw_R zr_144_14 (by decide) zm_144 (v := (0, x8)) rfl ?_
            rw [← hQ1]
            show zW E (d) 197 54 [(2, 69), (0, a0), (0, a1), (0, i1), (0, i2), (9, 0)] [(0, x8)] m0 Q
            refine zw_3 zr_197_54 rfl ?_
            refine zw_41_4 zr_197_55 ?_ ?_
            · intro h40
              refine zw_push zr_197_83 ?_
              refine zw_10 (L' := [(2, 69), (0, a0), (0, a1), (0, i1), (0, i2), (0, 0)]) zr_197_84 (Nat.le_of_ble_eq_true rfl) rfl ?_
              refine zw_3 zr_197_86 rfl ?_
              refine zw_40_4 zr_197_87 ?_ ?_
              · intro h41
                refine zw_push zr_197_105 ?_
                refine zw_42 zr_197_106 ?_
                refine zw_9 (L' := [(2, 69), (0, a0), (0, a1), (0, 1), (0, i2), (0, 0)]) zr_197_110 (Nat.le_of_ble_eq_true rfl) rfl ?_
                refine zw_15 (c := 1) (L' := [(2, 69), (0, a0), (0, a1), (0, 1), (0, (i2 + 1)), (0, 0)]) zr_197_111 rfl (by decide) (by omega) rfl ?_
                refine zw_42 zr_197_114 ?_
                exact zw_less (L := [(2, 69), (0, a0), (0, a1), (0, 1), (0, (i2 + 1)), (9, 0)]) ⟨Or.inr rfl, Or.inr rfl, Or.inr rfl, Or.inr rfl, Or.inr rfl, Or.inl rfl, trivial⟩ (ihlp5_3 (1) ((i2 + 1))  (by omega) (by omega) (by omega) (by omega) (by omega))
              · intro h42
                refine zw_4 zr_197_90 rfl ?_
                refine zw_40_1 zr_197_92 ?_ ?_
                · intro h43
                  refine zw_push zr_197_109 ?_
                  refine zw_9 (L' := [(2, 69), (0, a0), (0, a1), (0, 0), (0, i2), (0, 0)]) zr_197_110 (Nat.le_of_ble_eq_true rfl) rfl ?_
                  refine zw_15 (c := 1) (L' := [(2, 69), (0, a0), (0, a1), (0, 0), (0, (i2 + 1)), (0, 0)]) zr_197_111 rfl (by decide) (by omega) rfl ?_
                  refine zw_42 zr_197_114 ?_
                  exact zw_less (L := [(2, 69), (0, a0), (0, a1), (0, 0), (0, (i2 + 1)), (9, 0)]) ⟨Or.inr rfl, Or.inr rfl, Or.inr rfl, Or.inr rfl, Or.inr rfl, Or.inl rfl, trivial⟩ (ihlp5_3 (0) ((i2 + 1))  (by omega) (by omega) (by omega) (by omega) (by omega))
                · intro h44; omega
            · intro h45
              refine zw_7 zr_197_58 rfl ?_
              refine zw_4 zr_197_59 rfl ?_
              refine zw_push zr_197_61 ?_
              refine zw_C zr_197_62 (Or.inl rfl) zm_144 rfl rfl ⟨Nat.le_of_ble_eq_true rfl, Nat.le_of_ble_eq_true rfl, Nat.le_of_ble_eq_true rfl, rfl, by decide⟩ (by omega) (P := (fun v m' => zW E (d) 197 65 [(2, 69), (0, a0), (0, a1), (0, i1), (0, i2), (9, 0)] (if v.1 = 9 then [] else v :: []) m' Q)) ?_ (fun _ _ h => h)
              generalize hQ1 : (fun v m' => zW E (d) 197 65 [(2, 69), (0, a0), (0, a1), (0, i1), (0, i2), (9, 0)] (if v.1 = 9 then [] else v :: []) m' Q) = Q1
              show zW E (d - 1) 144 0 [(2, 69), (0, i2), (0, 2)] [] m0 Q1
              refine zw_7 zr_144_0 rfl ?_
              refine zw_46r (s := 70) zr_144_1 rfl rfl rfl rfl ?_
              refine zw_push zr_144_4 ?_
              refine zw_push zr_144_6 ?_
              refine zw_3 zr_144_8 rfl ?_
              refine zw_18 zr_144_9 (by omega) ?_
              refine zw_16 zr_144_10 (by omega) ?_
              refine zw_3 zr_144_11 rfl ?_
              refine zw_16 zr_144_12 (by omega) ?_
              refine zw_48k (c := 70) (len := 826) zr_144_13 rfl rfl (by omega) (by omega) rfl ex38.symm ?_
              refine zw_R zr_144_14 (by decide) zm_144 (v := (0, x38)) rfl ?_
              rw [← hQ1]
              show zW E (d) 197 65 [(2, 69), (0, a0), (0, a1), (0, i1), (0, i2), (9, 0)] [(0, x38)] m0 Q
              refine zw_3 zr_197_65 rfl ?_
              refine zw_41_4 zr_197_66 ?_ ?_
              · intro h46
                refine zw_push zr_197_83 ?_
                refine zw_10 (L' := [(2, 69), (0, a0), (0, a1), (0, i1), (0, i2), (0, 0)]) zr_197_84 (Nat.le_of_ble_eq_true rfl) rfl ?_
                refine zw_3 zr_197_86 rfl ?_
                refine zw_40_4 zr_197_87 ?_ ?_
                · intro h47
                  refine zw_push zr_197_105 ?_
                  refine zw_42 zr_197_106 ?_
                  refine zw_9 (L' := [(2, 69), (0, a0), (0, a1), (0, 1), (0, i2), (0, 0)]) zr_197_110 (Nat.le_of_ble_eq_true rfl) rfl ?_
                  refine zw_15 (c := 1) (L' := [(2, 69), (0, a0), (0, a1), (0, 1), (0, (i2 + 1)), (0, 0)]) zr_197_111 rfl (by decide) (by omega) rfl ?_
                  refine zw_42 zr_197_114 ?_
                  exact zw_less (L := [(2, 69), (0, a0), (0, a1), (0, 1), (0, (i2 + 1)), (9, 0)]) ⟨Or.inr rfl, Or.inr rfl, Or.inr rfl, Or.inr rfl, Or.inr rfl, Or.inl rfl, trivial⟩ (ihlp5_3 (1) ((i2 + 1))  (by omega) (by omega) (by omega) (by omega) (by omega))
                · intro h48
                  refine zw_4 zr_197_90 rfl ?_
                  refine zw_40_1 zr_197_92 ?_ ?_
                  · intro h49
                    refine zw_push zr_197_109 ?_
                    refine zw_9 (L' := [(2, 69), (0, a0), (0, a1), (0, 0), (0, i2), (0, 0)]) zr_197_110 (Nat.le_of_ble_eq_true rfl) rfl ?_
                    refine zw_15 (c := 1) (L' := [(2, 69), (0, a0), (0, a1), (0, 0), (0, (i2 + 1)), (0, 0)]) zr_197_111 rfl (by decide) (by omega) rfl ?_
                    refine zw_42 zr_197_114 ?_
                    exact zw_less (L := [(2, 69), (0, a0), (0, a1), (0, 0), (0, (i2 + 1)), (9, 0)]) ⟨Or.inr rfl, Or.inr rfl, Or.inr rfl, Or.inr rfl, Or.inr rfl, Or.inl rfl, trivial⟩ (ihlp5_3 (0) ((i2 + 1))  (by omega) (by omega) (by omega) (by omega) (by omega))
                  · intro h50; omega
              · intro h51
                refine zw_7 zr_197_69 rfl ?_
                refine zw_4 zr_197_70 rfl ?_
                refine zw_push zr_197_72 ?_
                refine zw_C zr_197_73 (Or.inl rfl) zm_144 rfl rfl ⟨Nat.le_of_ble_eq_true rfl, Nat.le_of_ble_eq_true rfl, Nat.le_of_ble_eq_true rfl, rfl, by decide⟩ (by omega) (P := (fun v m' => zW E (d) 197 76 [(2, 69), (0, a0), (0, a1), (0, i1), (0, i2), (9, 0)] (if v.1 = 9 then [] else v :: []) m' Q)) ?_ (fun _ _ h => h)
                generalize hQ1 : (fun v m' => zW E (d) 197 76 [(2, 69), (0, a0), (0, a1), (0, i1), (0, i2), (9, 0)] (if v.1 = 9 then [] else v :: []) m' Q) = Q1
                show zW E (d - 1) 144 0 [(2, 69), (0, i2), (0, 3)] [] m0 Q1
                refine zw_7 zr_144_0 rfl ?_
                refine zw_46r (s := 70) zr_144_1 rfl rfl rfl rfl ?_
                refine zw_push zr_144_4 ?_
                refine zw_push zr_144_6 ?_
                refine zw_3 zr_144_8 rfl ?_
                refine zw_18 zr_144_9 (by omega) ?_
                refine zw_16 zr_144_10 (by omega) ?_
                refine zw_3 zr_144_11 rfl ?_
                refine zw_16 zr_144_12 (by omega) ?_
                refine zw_48 (c := 70) (len := 826) zr_144_13 rfl rfl (by omega) (by omega) ?_
                intro x52 ex52
                have bx52 := ib_70_m3 hI0 (k := (((90 + (6 * i2)) + 3)).toNat) (by omega)
                rw [← ex52] at bx52
                refine zw_R zr_144_14 (by decide) zm_144 (v := (0, x52)) rfl ?_
                rw [← hQ1]
                show zW E (d) 197 76 [(2, 69), (0, a0), (0, a1), (0, i1), (0, i2), (9, 0)] [(0, x52)] m0 Q
                refine zw_40_4 zr_197_76 ?_ ?_
                · intro h53
                  refine zw_push zr_197_83 ?_
                  refine zw_10 (L' := [(2, 69), (0, a0), (0, a1), (0, i1), (0, i2), (0, 0)]) zr_197_84 (Nat.le_of_ble_eq_true rfl) rfl ?_
                  refine zw_3 zr_197_86 rfl ?_
                  refine zw_40_4 zr_197_87 ?_ ?_
                  · intro h54
                    refine zw_push zr_197_105 ?_
                    refine zw_42 zr_197_106 ?_
                    refine zw_9 (L' := [(2, 69), (0, a0), (0, a1), (0, 1), (0, i2), (0, 0)]) zr_197_110 (Nat.le_of_ble_eq_true rfl) rfl ?_
                    refine zw_15 (c := 1) (L' := [(2, 69), (0, a0), (0, a1), (0, 1), (0, (i2 + 1)), (0, 0)]) zr_197_111 rfl (by decide) (by omega) rfl ?_
                    refine zw_42 zr_197_114 ?_
                    exact zw_less (L := [(2, 69), (0, a0), (0, a1), (0, 1), (0, (i2 + 1)), (9, 0)]) ⟨Or.inr rfl, Or.inr rfl, Or.inr rfl, Or.inr rfl, Or.inr rfl, Or.inl rfl, trivial⟩ (ihlp5_3 (1) ((i2 + 1))  (by omega) (by omega) (by omega) (by omega) (by omega))
                  · intro h55
                    refine zw_4 zr_197_90 rfl ?_
                    refine zw_40_1 zr_197_92 ?_ ?_
                    · intro h56
                      refine zw_push zr_197_109 ?_
                      refine zw_9 (L' := [(2, 69), (0, a0), (0, a1), (0, 0), (0, i2), (0, 0)]) zr_197_110 (Nat.le_of_ble_eq_true rfl) rfl ?_
                      refine zw_15 (c := 1) (L' := [(2, 69), (0, a0), (0, a1), (0, 0), (0, (i2 + 1)), (0, 0)]) zr_197_111 rfl (by decide) (by omega) rfl ?_
                      refine zw_42 zr_197_114 ?_
                      exact zw_less (L := [(2, 69), (0, a0), (0, a1), (0, 0), (0, (i2 + 1)), (9, 0)]) ⟨Or.inr rfl, Or.inr rfl, Or.inr rfl, Or.inr rfl, Or.inr rfl, Or.inl rfl, trivial⟩ (ihlp5_3 (0) ((i2 + 1))  (by omega) (by omega) (by omega) (by omega) (by omega))
                    · intro h57; omega
                · intro h58
                  refine zw_push zr_197_79 ?_
                  refine zw_42 zr_197_80 ?_
                  refine zw_10 (L' := [(2, 69), (0, a0), (0, a1), (0, i1), (0, i2), (0, 1)]) zr_197_84 (Nat.le_of_ble_eq_true rfl) rfl ?_
                  refine zw_3 zr_197_86 rfl ?_
                  refine zw_40_4 zr_197_87 ?_ ?_
                  · intro h59
                    refine zw_push zr_197_105 ?_
                    refine zw_42 zr_197_106 ?_
                    refine zw_9 (L' := [(2, 69), (0, a0), (0, a1), (0, 1), (0, i2), (0, 1)]) zr_197_110 (Nat.le_of_ble_eq_true rfl) rfl ?_
                    refine zw_15 (c := 1) (L' := [(2, 69), (0, a0), (0, a1), (0, 1), (0, (i2 + 1)), (0, 1)]) zr_197_111 rfl (by decide) (by omega) rfl ?_
                    refine zw_42 zr_197_114 ?_
                    exact zw_less (L := [(2, 69), (0, a0), (0, a1), (0, 1), (0, (i2 + 1)), (9, 0)]) ⟨Or.inr rfl, Or.inr rfl, Or.inr rfl, Or.inr rfl, Or.inr rfl, Or.inl rfl, trivial⟩ (ihlp5_3 (1) ((i2 + 1))  (by omega) (by omega) (by omega) (by omega) (by omega))
                  · intro h60
                    refine zw_4 zr_197_90 rfl ?_
                    refine zw_40_1 zr_197_92 ?_ ?_
                    · intro h61; omega
                    · intro h62
                      refine zw_7 zr_197_95 rfl ?_
                      refine zw_4 zr_197_96 rfl ?_
                      refine zw_push zr_197_98 ?_
                      refine zw_C zr_197_99 (Or.inl rfl) zm_144 rfl rfl ⟨Nat.le_of_ble_eq_true rfl, Nat.le_of_ble_eq_true rfl, Nat.le_of_ble_eq_true rfl, rfl, by decide⟩ (by omega) (P := (fun v m' => zW E (d) 197 102 [(2, 69), (0, a0), (0, a1), (0, i1), (0, i2), (0, 1)] (if v.1 = 9 then [] else v :: []) m' Q)) ?_ (fun _ _ h => h)
                      generalize hQ1 : (fun v m' => zW E (d) 197 102 [(2, 69), (0, a0), (0, a1), (0, i1), (0, i2), (0, 1)] (if v.1 = 9 then [] else v :: []) m' Q) = Q1
                      show zW E (d - 1) 144 0 [(2, 69), (0, i2), (0, 4)] [] m0 Q1
                      refine zw_7 zr_144_0 rfl ?_
                      refine zw_46r (s := 70) zr_144_1 rfl rfl rfl rfl ?_
                      refine zw_push zr_144_4 ?_
                      refine zw_push zr_144_6 ?_
                      refine zw_3 zr_144_8 rfl ?_
                      refine zw_18 zr_144_9 (by omega) ?_
                      refine zw_16 zr_144_10 (by omega) ?_
                      refine zw_3 zr_144_11 rfl ?_
                      refine zw_16 zr_144_12 (by omega) ?_
                      refine zw_48 (c := 70) (len := 826) zr_144_13 rfl rfl (by omega) (by omega) ?_
                      intro x63 ex63
                      have bx63 := ib_70_m4 hI0 (k := (((90 + (6 * i2)) + 4)).toNat) (by omega)
                      rw [← ex63] at bx63
                      refine zw_R zr_144_14 (by decide) zm_144 (v := (0, x63)) rfl ?_
                      rw [← hQ1]
                      show zW E (d) 197 102 [(2, 69), (0, a0), (0, a1), (0, i1), (0, i2), (0, 1)] [(0, x63)] m0 Q
                      refine zw_40_4 zr_197_102 ?_ ?_
                      · intro h64
                        refine zw_push zr_197_109 ?_
                        refine zw_9 (L' := [(2, 69), (0, a0), (0, a1), (0, 0), (0, i2), (0, 1)]) zr_197_110 (Nat.le_of_ble_eq_true rfl) rfl ?_
                        refine zw_15 (c := 1) (L' := [(2, 69), (0, a0), (0, a1), (0, 0), (0, (i2 + 1)), (0, 1)]) zr_197_111 rfl (by decide) (by omega) rfl ?_
                        refine zw_42 zr_197_114 ?_
                        exact zw_less (L := [(2, 69), (0, a0), (0, a1), (0, 0), (0, (i2 + 1)), (9, 0)]) ⟨Or.inr rfl, Or.inr rfl, Or.inr rfl, Or.inr rfl, Or.inr rfl, Or.inl rfl, trivial⟩ (ihlp5_3 (0) ((i2 + 1))  (by omega) (by omega) (by omega) (by omega) (by omega))
                      · intro h65
                        refine zw_push zr_197_105 ?_
                        refine zw_42 zr_197_106 ?_
                        refine zw_9 (L' := [(2, 69), (0, a0), (0, a1), (0, 1), (0, i2), (0, 1)]) zr_197_110 (Nat.le_of_ble_eq_true rfl) rfl ?_
                        refine zw_15 (c := 1) (L' := [(2, 69), (0, a0), (0, a1), (0, 1), (0, (i2 + 1)), (0, 1)]) zr_197_111 rfl (by decide) (by omega) rfl ?_
                        refine zw_42 zr_197_114 ?_
                        exact zw_less (L := [(2, 69), (0, a0), (0, a1), (0, 1), (0, (i2 + 1)), (9, 0)]) ⟨Or.inr rfl, Or.inr rfl, Or.inr rfl, Or.inr rfl, Or.inr rfl, Or.inl rfl, trivial⟩ (ihlp5_3 (1) ((i2 + 1))  (by omega) (by omega) (by omega) (by omega) (by omega))
          · intro h66
            refine zw_7 zr_197_36 rfl ?_
            refine zw_4 zr_197_37 rfl ?_
            refine zw_push zr_197_39 ?_
            refine zw_C zr_197_40 (Or.inl rfl) zm_144 rfl rfl ⟨Nat.le_of_ble_eq_true rfl, Nat.le_of_ble_eq_true rfl, Nat.le_of_ble_eq_true rfl, rfl, by decide⟩ (by omega) (P := (fun v m' => zW E (d) 197 43 [(2, 69), (0, a0), (0, a1), (0, i1), (0, i2), (9, 0)] (if v.1 = 9 then [] else v :: []) m' Q)) ?_ (fun _ _ h => h)
            generalize hQ1 : (fun v m' => zW E (d) 197 43 [(2, 69), (0, a0), (0, a1), (0, i1), (0, i2), (9, 0)] (if v.1 = 9 then [] else v :: []) m' Q) = Q1
            show zW E (d - 1) 144 0 [(2, 69), (0, i2), (0, 3)] [] m0 Q1
            refine zw_7 zr_144_0 rfl ?_
            refine zw_46r (s := 70) zr_144_1 rfl rfl rfl rfl ?_
            refine zw_push zr_144_4 ?_
            refine zw_push zr_144_6 ?_
            refine zw_3 zr_144_8 rfl ?_
            refine zw_18 zr_144_9 (by omega) ?_
            refine zw_16 zr_144_10 (by omega) ?_
            refine zw_3 zr_144_11 rfl ?_
            refine zw_16 zr_144_12 (by omega) ?_
            refine zw_48 (c := 70) (len := 826) zr_144_13 rfl rfl (by omega) (by omega) ?_
            intro x67 ex67
            have bx67 := ib_70_m3 hI0 (k := (((90 + (6 * i2)) + 3)).toNat) (by omega)
            rw [← ex67] at bx67
            refine zw_R zr_144_14 (by decide) zm_144 (v := (0, x67)) rfl ?_
            rw [← hQ1]
            show zW E (d) 197 43 [(2, 69), (0, a0), (0, a1), (0, i1), (0, i2), (9, 0)] [(0, x67)] m0 Q
            refine zw_push zr_197_43 ?_
            refine zw_41_1 zr_197_44 ?_ ?_
            · intro h68
              refine zw_push zr_197_79 ?_
              refine zw_42 zr_197_80 ?_
              refine zw_10 (L' := [(2, 69), (0, a0), (0, a1), (0, i1), (0, i2), (0, 1)]) zr_197_84 (Nat.le_of_ble_eq_true rfl) rfl ?_
              refine zw_3 zr_197_86 rfl ?_
              refine zw_40_4 zr_197_87 ?_ ?_
              · intro h69
                refine zw_push zr_197_105 ?_
                refine zw_42 zr_197_106 ?_
                refine zw_9 (L' := [(2, 69), (0, a0), (0, a1), (0, 1), (0, i2), (0, 1)]) zr_197_110 (Nat.le_of_ble_eq_true rfl) rfl ?_
                refine zw_15 (c := 1) (L' := [(2, 69), (0, a0), (0, a1), (0, 1), (0, (i2 + 1)), (0, 1)]) zr_197_111 rfl (by decide) (by omega) rfl ?_
                refine zw_42 zr_197_114 ?_
                exact zw_less (L := [(2, 69), (0, a0), (0, a1), (0, 1), (0, (i2 + 1)), (9, 0)]) ⟨Or.inr rfl, Or.inr rfl, Or.inr rfl, Or.inr rfl, Or.inr rfl, Or.inl rfl, trivial⟩ (ihlp5_3 (1) ((i2 + 1))  (by omega) (by omega) (by omega) (by omega) (by omega))
              · intro h70
                refine zw_4 zr_197_90 rfl ?_
                refine zw_40_1 zr_197_92 ?_ ?_
                · intro h71; omega
                · intro h72
                  refine zw_7 zr_197_95 rfl ?_
                  refine zw_4 zr_197_96 rfl ?_
                  refine zw_push zr_197_98 ?_
                  refine zw_C zr_197_99 (Or.inl rfl) zm_144 rfl rfl ⟨Nat.le_of_ble_eq_true rfl, Nat.le_of_ble_eq_true rfl, Nat.le_of_ble_eq_true rfl, rfl, by decide⟩ (by omega) (P := (fun v m' => zW E (d) 197 102 [(2, 69), (0, a0), (0, a1), (0, i1), (0, i2), (0, 1)] (if v.1 = 9 then [] else v :: []) m' Q)) ?_ (fun _ _ h => h)
                  generalize hQ1 : (fun v m' => zW E (d) 197 102 [(2, 69), (0, a0), (0, a1), (0, i1), (0, i2), (0, 1)] (if v.1 = 9 then [] else v :: []) m' Q) = Q1
                  show zW E (d - 1) 144 0 [(2, 69), (0, i2), (0, 4)] [] m0 Q1
                  refine zw_7 zr_144_0 rfl ?_
                  refine zw_46r (s := 70) zr_144_1 rfl rfl rfl rfl ?_
                  refine zw_push zr_144_4 ?_
                  refine zw_push zr_144_6 ?_
                  refine zw_3 zr_144_8 rfl ?_
                  refine zw_18 zr_144_9 (by omega) ?_
                  refine zw_16 zr_144_10 (by omega) ?_
                  refine zw_3 zr_144_11 rfl ?_
                  refine zw_16 zr_144_12 (by omega) ?_
                  refine zw_48 (c := 70) (len := 826) zr_144_13 rfl rfl (by omega) (by omega) ?_
                  intro x73 ex73
                  have bx73 := ib_70_m4 hI0 (k := (((90 + (6 * i2)) + 4)).toNat) (by omega)
                  rw [← ex73] at bx73
                  refine zw_R zr_144_14 (by decide) zm_144 (v := (0, x73)) rfl ?_
                  rw [← hQ1]
                  show zW E (d) 197 102 [(2, 69), (0, a0), (0, a1), (0, i1), (0, i2), (0, 1)] [(0, x73)] m0 Q
                  refine zw_40_4 zr_197_102 ?_ ?_
                  · intro h74
                    refine zw_push zr_197_109 ?_
                    refine zw_9 (L' := [(2, 69), (0, a0), (0, a1), (0, 0), (0, i2), (0, 1)]) zr_197_110 (Nat.le_of_ble_eq_true rfl) rfl ?_
                    refine zw_15 (c := 1) (L' := [(2, 69), (0, a0), (0, a1), (0, 0), (0, (i2 + 1)), (0, 1)]) zr_197_111 rfl (by decide) (by omega) rfl ?_
                    refine zw_42 zr_197_114 ?_
                    exact zw_less (L := [(2, 69), (0, a0), (0, a1), (0, 0), (0, (i2 + 1)), (9, 0)]) ⟨Or.inr rfl, Or.inr rfl, Or.inr rfl, Or.inr rfl, Or.inr rfl, Or.inl rfl, trivial⟩ (ihlp5_3 (0) ((i2 + 1))  (by omega) (by omega) (by omega) (by omega) (by omega))
                  · intro h75
                    refine zw_push zr_197_105 ?_
                    refine zw_42 zr_197_106 ?_
                    refine zw_9 (L' := [(2, 69), (0, a0), (0, a1), (0, 1), (0, i2), (0, 1)]) zr_197_110 (Nat.le_of_ble_eq_true rfl) rfl ?_
                    refine zw_15 (c := 1) (L' := [(2, 69), (0, a0), (0, a1), (0, 1), (0, (i2 + 1)), (0, 1)]) zr_197_111 rfl (by decide) (by omega) rfl ?_
                    refine zw_42 zr_197_114 ?_
                    exact zw_less (L := [(2, 69), (0, a0), (0, a1), (0, 1), (0, (i2 + 1)), (9, 0)]) ⟨Or.inr rfl, Or.inr rfl, Or.inr rfl, Or.inr rfl, Or.inr rfl, Or.inl rfl, trivial⟩ (ihlp5_3 (1) ((i2 + 1))  (by omega) (by omega) (by omega) (by omega) (by omega))
            · intro h76
              refine zw_7 zr_197_47 rfl ?_
              refine zw_4 zr_197_48 rfl ?_
              refine zw_push zr_197_50 ?_
              refine zw_C zr_197_51 (Or.inl rfl) zm_144 rfl rfl ⟨Nat.le_of_ble_eq_true rfl, Nat.le_of_ble_eq_true rfl, Nat.le_of_ble_eq_true rfl, rfl, by decide⟩ (by omega) (P := (fun v m' => zW E (d) 197 54 [(2, 69), (0, a0), (0, a1), (0, i1), (0, i2), (9, 0)] (if v.1 = 9 then [] else v :: []) m' Q)) ?_ (fun _ _ h => h)
              generalize hQ1 : (fun v m' => zW E (d) 197 54 [(2, 69), (0, a0), (0, a1), (0, i1), (0, i2), (9, 0)] (if v.1 = 9 then [] else v :: []) m' Q) = Q1
              show zW E (d - 1) 144 0 [(2, 69), (0, i2), (0, 1)] [] m0 Q1
              refine zw_7 zr_144_0 rfl ?_
              refine zw_46r (s := 70) zr_144_1 rfl rfl rfl rfl ?_
              refine zw_push zr_144_4 ?_
              refine zw_push zr_144_6 ?_
              refine zw_3 zr_144_8 rfl ?_
              refine zw_18 zr_144_9 (by omega) ?_
              refine zw_16 zr_144_10 (by omega) ?_
              refine zw_3 zr_144_11 rfl ?_
              refine zw_16 zr_144_12 (by omega) ?_
              refine zw_48k (c := 70) (len := 826) zr_144_13 rfl rfl (by omega) (by omega) rfl ex8.symm ?_
              refine zw_R zr_144_14 (by decide) zm_144 (v := (0, x8)) rfl ?_
              rw [← hQ1]
              show zW E (d) 197 54 [(2, 69), (0, a0), (0, a1), (0, i1), (0, i2), (9, 0)] [(0, x8)] m0 Q
              refine zw_3 zr_197_54 rfl ?_
              refine zw_41_4 zr_197_55 ?_ ?_
              · intro h77
                refine zw_push zr_197_83 ?_
                refine zw_10 (L' := [(2, 69), (0, a0), (0, a1), (0, i1), (0, i2), (0, 0)]) zr_197_84 (Nat.le_of_ble_eq_true rfl) rfl ?_
                refine zw_3 zr_197_86 rfl ?_
                refine zw_40_4 zr_197_87 ?_ ?_
                · intro h78
                  refine zw_push zr_197_105 ?_
                  refine zw_42 zr_197_106 ?_
                  refine zw_9 (L' := [(2, 69), (0, a0), (0, a1), (0, 1), (0, i2), (0, 0)]) zr_197_110 (Nat.le_of_ble_eq_true rfl) rfl ?_
                  refine zw_15 (c := 1) (L' := [(2, 69), (0, a0), (0, a1), (0, 1), (0, (i2 + 1)), (0, 0)]) zr_197_111 rfl (by decide) (by omega) rfl ?_
                  refine zw_42 zr_197_114 ?_
                  exact zw_less (L := [(2, 69), (0, a0), (0, a1), (0, 1), (0, (i2 + 1)), (9, 0)]) ⟨Or.inr rfl, Or.inr rfl, Or.inr rfl, Or.inr rfl, Or.inr rfl, Or.inl rfl, trivial⟩ (ihlp5_3 (1) ((i2 + 1))  (by omega) (by omega) (by omega) (by omega) (by omega))
                · intro h79
                  refine zw_4 zr_197_90 rfl ?_
                  refine zw_40_1 zr_197_92 ?_ ?_
                  · intro h80
                    refine zw_push zr_197_109 ?_
                    refine zw_9 (L' := [(2, 69), (0, a0), (0, a1), (0, 0), (0, i2), (0, 0)]) zr_197_110 (Nat.le_of_ble_eq_true rfl) rfl ?_
                    refine zw_15 (c := 1) (L' := [(2, 69), (0, a0), (0, a1), (0, 0), (0, (i2 + 1)), (0, 0)]) zr_197_111 rfl (by decide) (by omega) rfl ?_
                    refine zw_42 zr_197_114 ?_
                    exact zw_less (L := [(2, 69), (0, a0), (0, a1), (0, 0), (0, (i2 + 1)), (9, 0)]) ⟨Or.inr rfl, Or.inr rfl, Or.inr rfl, Or.inr rfl, Or.inr rfl, Or.inl rfl, trivial⟩ (ihlp5_3 (0) ((i2 + 1))  (by omega) (by omega) (by omega) (by omega) (by omega))
                  · intro h81; omega
              · intro h82
                refine zw_7 zr_197_58 rfl ?_
                refine zw_4 zr_197_59 rfl ?_
                refine zw_push zr_197_61 ?_
                refine zw_C zr_197_62 (Or.inl rfl) zm_144 rfl rfl ⟨Nat.le_of_ble_eq_true rfl, Nat.le_of_ble_eq_true rfl, Nat.le_of_ble_eq_true rfl, rfl, by decide⟩ (by omega) (P := (fun v m' => zW E (d) 197 65 [(2, 69), (0, a0), (0, a1), (0, i1), (0, i2), (9, 0)] (if v.1 = 9 then [] else v :: []) m' Q)) ?_ (fun _ _ h => h)
                generalize hQ1 : (fun v m' => zW E (d) 197 65 [(2, 69), (0, a0), (0, a1), (0, i1), (0, i2), (9, 0)] (if v.1 = 9 then [] else v :: []) m' Q) = Q1
                show zW E (d - 1) 144 0 [(2, 69), (0, i2), (0, 2)] [] m0 Q1
                refine zw_7 zr_144_0 rfl ?_
                refine zw_46r (s := 70) zr_144_1 rfl rfl rfl rfl ?_
                refine zw_push zr_144_4 ?_
                refine zw_push zr_144_6 ?_
                refine zw_3 zr_144_8 rfl ?_
                refine zw_18 zr_144_9 (by omega) ?_
                refine zw_16 zr_144_10 (by omega) ?_
                refine zw_3 zr_144_11 rfl ?_
                refine zw_16 zr_144_12 (by omega) ?_
                refine zw_48k (c := 70) (len := 826) zr_144_13 rfl rfl (by omega) (by omega) rfl ex38.symm ?_
                refine zw_R zr_144_14 (by decide) zm_144 (v := (0, x38)) rfl ?_
                rw [← hQ1]
                show zW E (d) 197 65 [(2, 69), (0, a0), (0, a1), (0, i1), (0, i2), (9, 0)] [(0, x38)] m0 Q
                refine zw_3 zr_197_65 rfl ?_
                refine zw_41_4 zr_197_66 ?_ ?_
                · intro h83
                  refine zw_push zr_197_83 ?_
                  refine zw_10 (L' := [(2, 69), (0, a0), (0, a1), (0, i1), (0, i2), (0, 0)]) zr_197_84 (Nat.le_of_ble_eq_true rfl) rfl ?_
                  refine zw_3 zr_197_86 rfl ?_
                  refine zw_40_4 zr_197_87 ?_ ?_
                  · intro h84
                    refine zw_push zr_197_105 ?_
                    refine zw_42 zr_197_106 ?_
                    refine zw_9 (L' := [(2, 69), (0, a0), (0, a1), (0, 1), (0, i2), (0, 0)]) zr_197_110 (Nat.le_of_ble_eq_true rfl) rfl ?_
                    refine zw_15 (c := 1) (L' := [(2, 69), (0, a0), (0, a1), (0, 1), (0, (i2 + 1)), (0, 0)]) zr_197_111 rfl (by decide) (by omega) rfl ?_
                    refine zw_42 zr_197_114 ?_
                    exact zw_less (L := [(2, 69), (0, a0), (0, a1), (0, 1), (0, (i2 + 1)), (9, 0)]) ⟨Or.inr rfl, Or.inr rfl, Or.inr rfl, Or.inr rfl, Or.inr rfl, Or.inl rfl, trivial⟩ (ihlp5_3 (1) ((i2 + 1))  (by omega) (by omega) (by omega) (by omega) (by omega))
                  · intro h85
                    refine zw_4 zr_197_90 rfl ?_
                    refine zw_40_1 zr_197_92 ?_ ?_
                    · intro h86
                      refine zw_push zr_197_109 ?_
                      refine zw_9 (L' := [(2, 69), (0, a0), (0, a1), (0, 0), (0, i2), (0, 0)]) zr_197_110 (Nat.le_of_ble_eq_true rfl) rfl ?_
                      refine zw_15 (c := 1) (L' := [(2, 69), (0, a0), (0, a1), (0, 0), (0, (i2 + 1)), (0, 0)]) zr_197_111 rfl (by decide) (by omega) rfl ?_
                      refine zw_42 zr_197_114 ?_
                      exact zw_less (L := [(2, 69), (0, a0), (0, a1), (0, 0), (0, (i2 + 1)), (9, 0)]) ⟨Or.inr rfl, Or.inr rfl, Or.inr rfl, Or.inr rfl, Or.inr rfl, Or.inl rfl, trivial⟩ (ihlp5_3 (0) ((i2 + 1))  (by omega) (by omega) (by omega) (by omega) (by omega))
                    · intro h87; omega
                · intro h88
                  refine zw_7 zr_197_69 rfl ?_
                  refine zw_4 zr_197_70 rfl ?_
                  refine zw_push zr_197_72 ?_
                  refine zw_C zr_197_73 (Or.inl rfl) zm_144 rfl rfl ⟨Nat.le_of_ble_eq_true rfl, Nat.le_of_ble_eq_true rfl, Nat.le_of_ble_eq_true rfl, rfl, by decide⟩ (by omega) (P := (fun v m' => zW E (d) 197 76 [(2, 69), (0, a0), (0, a1), (0, i1), (0, i2), (9, 0)] (if v.1 = 9 then [] else v :: []) m' Q)) ?_ (fun _ _ h => h)
                  generalize hQ1 : (fun v m' => zW E (d) 197 76 [(2, 69), (0, a0), (0, a1), (0, i1), (0, i2), (9, 0)] (if v.1 = 9 then [] else v :: []) m' Q) = Q1
                  show zW E (d - 1) 144 0 [(2, 69), (0, i2), (0, 3)] [] m0 Q1
                  refine zw_7 zr_144_0 rfl ?_
                  refine zw_46r (s := 70) zr_144_1 rfl rfl rfl rfl ?_
                  refine zw_push zr_144_4 ?_
                  refine zw_push zr_144_6 ?_
                  refine zw_3 zr_144_8 rfl ?_
                  refine zw_18 zr_144_9 (by omega) ?_
                  refine zw_16 zr_144_10 (by omega) ?_
                  refine zw_3 zr_144_11 rfl ?_
                  refine zw_16 zr_144_12 (by omega) ?_
                  refine zw_48k (c := 70) (len := 826) zr_144_13 rfl rfl (by omega) (by omega) rfl ex67.symm ?_
                  refine zw_R zr_144_14 (by decide) zm_144 (v := (0, x67)) rfl ?_
                  rw [← hQ1]
                  show zW E (d) 197 76 [(2, 69), (0, a0), (0, a1), (0, i1), (0, i2), (9, 0)] [(0, x67)] m0 Q
                  refine zw_40_4 zr_197_76 ?_ ?_
                  · intro h89
                    refine zw_push zr_197_83 ?_
                    refine zw_10 (L' := [(2, 69), (0, a0), (0, a1), (0, i1), (0, i2), (0, 0)]) zr_197_84 (Nat.le_of_ble_eq_true rfl) rfl ?_
                    refine zw_3 zr_197_86 rfl ?_
                    refine zw_40_4 zr_197_87 ?_ ?_
                    · intro h90
                      refine zw_push zr_197_105 ?_
                      refine zw_42 zr_197_106 ?_
                      refine zw_9 (L' := [(2, 69), (0, a0), (0, a1), (0, 1), (0, i2), (0, 0)]) zr_197_110 (Nat.le_of_ble_eq_true rfl) rfl ?_
                      refine zw_15 (c := 1) (L' := [(2, 69), (0, a0), (0, a1), (0, 1), (0, (i2 + 1)), (0, 0)]) zr_197_111 rfl (by decide) (by omega) rfl ?_
                      refine zw_42 zr_197_114 ?_
                      exact zw_less (L := [(2, 69), (0, a0), (0, a1), (0, 1), (0, (i2 + 1)), (9, 0)]) ⟨Or.inr rfl, Or.inr rfl, Or.inr rfl, Or.inr rfl, Or.inr rfl, Or.inl rfl, trivial⟩ (ihlp5_3 (1) ((i2 + 1))  (by omega) (by omega) (by omega) (by omega) (by omega))
                    · intro h91
                      refine zw_4 zr_197_90 rfl ?_
                      refine zw_40_1 zr_197_92 ?_ ?_
                      · intro h92
                        refine zw_push zr_197_109 ?_
                        refine zw_9 (L' := [(2, 69), (0, a0), (0, a1), (0, 0), (0, i2), (0, 0)]) zr_197_110 (Nat.le_of_ble_eq_true rfl) rfl ?_
                        refine zw_15 (c := 1) (L' := [(2, 69), (0, a0), (0, a1), (0, 0), (0, (i2 + 1)), (0, 0)]) zr_197_111 rfl (by decide) (by omega) rfl ?_
                        refine zw_42 zr_197_114 ?_
                        exact zw_less (L := [(2, 69), (0, a0), (0, a1), (0, 0), (0, (i2 + 1)), (9, 0)]) ⟨Or.inr rfl, Or.inr rfl, Or.inr rfl, Or.inr rfl, Or.inr rfl, Or.inl rfl, trivial⟩ (ihlp5_3 (0) ((i2 + 1))  (by omega) (by omega) (by omega) (by omega) (by omega))
                      · intro h93; omega
                  · intro h94
                    refine zw_push zr_197_79 ?_
                    refine zw_42 zr_197_80 ?_
                    refine zw_10 (L' := [(2, 69), (0, a0), (0, a1), (0, i1), (0, i2), (0, 1)]) zr_197_84 (Nat.le_of_ble_eq_true rfl) rfl ?_
                    refine zw_3 zr_197_86 rfl ?_
                    refine zw_40_4 zr_197_87 ?_ ?_
                    · intro h95
                      refine zw_push zr_197_105 ?_
                      refine zw_42 zr_197_106 ?_
                      refine zw_9 (L' := [(2, 69), (0, a0), (0, a1), (0, 1), (0, i2), (0, 1)]) zr_197_110 (Nat.le_of_ble_eq_true rfl) rfl ?_
                      refine zw_15 (c := 1) (L' := [(2, 69), (0, a0), (0, a1), (0, 1), (0, (i2 + 1)), (0, 1)]) zr_197_111 rfl (by decide) (by omega) rfl ?_
                      refine zw_42 zr_197_114 ?_
                      exact zw_less (L := [(2, 69), (0, a0), (0, a1), (0, 1), (0, (i2 + 1)), (9, 0)]) ⟨Or.inr rfl, Or.inr rfl, Or.inr rfl, Or.inr rfl, Or.inr rfl, Or.inl rfl, trivial⟩ (ihlp5_3 (1) ((i2 + 1))  (by omega) (by omega) (by omega) (by omega) (by omega))
                    · intro h96
                      refine zw_4 zr_197_90 rfl ?_
                      refine zw_40_1 zr_197_92 ?_ ?_
                      · intro h97; omega
                      · intro h98
                        refine zw_7 zr_197_95 rfl ?_
                        refine zw_4 zr_197_96 rfl ?_
                        refine zw_push zr_197_98 ?_
                        refine zw_C zr_197_99 (Or.inl rfl) zm_144 rfl rfl ⟨Nat.le_of_ble_eq_true rfl, Nat.le_of_ble_eq_true rfl, Nat.le_of_ble_eq_true rfl, rfl, by decide⟩ (by omega) (P := (fun v m' => zW E (d) 197 102 [(2, 69), (0, a0), (0, a1), (0, i1), (0, i2), (0, 1)] (if v.1 = 9 then [] else v :: []) m' Q)) ?_ (fun _ _ h => h)
                        generalize hQ1 : (fun v m' => zW E (d) 197 102 [(2, 69), (0, a0), (0, a1), (0, i1), (0, i2), (0, 1)] (if v.1 = 9 then [] else v :: []) m' Q) = Q1
                        show zW E (d - 1) 144 0 [(2, 69), (0, i2), (0, 4)] [] m0 Q1
                        refine zw_7 zr_144_0 rfl ?_
                        refine zw_46r (s := 70) zr_144_1 rfl rfl rfl rfl ?_
                        refine zw_push zr_144_4 ?_
                        refine zw_push zr_144_6 ?_
                        refine zw_3 zr_144_8 rfl ?_
                        refine zw_18 zr_144_9 (by omega) ?_
                        refine zw_16 zr_144_10 (by omega) ?_
                        refine zw_3 zr_144_11 rfl ?_
                        refine zw_16 zr_144_12 (by omega) ?_
                        refine zw_48 (c := 70) (len := 826) zr_144_13 rfl rfl (by omega) (by omega) ?_
                        intro x99 ex99
                        have bx99 := ib_70_m4 hI0 (k := (((90 + (6 * i2)) + 4)).toNat) (by omega)
                        rw [← ex99] at bx99
                        refine zw_R zr_144_14 (by decide) zm_144 (v := (0, x99)) rfl ?_
                        rw [← hQ1]
                        show zW E (d) 197 102 [(2, 69), (0, a0), (0, a1), (0, i1), (0, i2), (0, 1)] [(0, x99)] m0 Q
                        refine zw_40_4 zr_197_102 ?_ ?_
                        · intro h100
                          refine zw_push zr_197_109 ?_
                          refine zw_9 (L' := [(2, 69), (0, a0), (0, a1), (0, 0), (0, i2), (0, 1)]) zr_197_110 (Nat.le_of_ble_eq_true rfl) rfl ?_
                          refine zw_15 (c := 1) (L' := [(2, 69), (0, a0), (0, a1), (0, 0), (0, (i2 + 1)), (0, 1)]) zr_197_111 rfl (by decide) (by omega) rfl ?_
                          refine zw_42 zr_197_114 ?_
                          exact zw_less (L := [(2, 69), (0, a0), (0, a1), (0, 0), (0, (i2 + 1)), (9, 0)]) ⟨Or.inr rfl, Or.inr rfl, Or.inr rfl, Or.inr rfl, Or.inr rfl, Or.inl rfl, trivial⟩ (ihlp5_3 (0) ((i2 + 1))  (by omega) (by omega) (by omega) (by omega) (by omega))
                        · intro h101
                          refine zw_push zr_197_105 ?_
                          refine zw_42 zr_197_106 ?_
                          refine zw_9 (L' := [(2, 69), (0, a0), (0, a1), (0, 1), (0, i2), (0, 1)]) zr_197_110 (Nat.le_of_ble_eq_true rfl) rfl ?_
                          refine zw_15 (c := 1) (L' := [(2, 69), (0, a0), (0, a1), (0, 1), (0, (i2 + 1)), (0, 1)]) zr_197_111 rfl (by decide) (by omega) rfl ?_
                          refine zw_42 zr_197_114 ?_
                          exact zw_less (L := [(2, 69), (0, a0), (0, a1), (0, 1), (0, (i2 + 1)), (9, 0)]) ⟨Or.inr rfl, Or.inr rfl, Or.inr rfl, Or.inr rfl, Or.inr rfl, Or.inl rfl, trivial⟩ (ihlp5_3 (1) ((i2 + 1))  (by omega) (by omega) (by omega) (by omega) (by omega))
  exact lp5_3 _ (0) (0)  (by omega) (by omega) (by omega) (by omega) (Nat.lt_succ_self _)
