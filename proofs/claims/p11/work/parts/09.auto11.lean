set_option maxHeartbeats 8000000 in
theorem th_75 {E : zE} {d : Nat} {m0 : zM} {a0 : Int} {a1 : Int} (hd : 3 ≤ d) (hI0 : zInv m0) (ha0 : 0 ≤ a0 ∧ a0 ≤ 9) (ha1 : 0 ≤ a1 ∧ a1 ≤ 2147483646) : zC E d 75 [(2, 60), (0, a0), (0, a1)] m0 (fun v m' => ∃ r : Int, v = (0, r) ∧ (-5) ≤ r ∧ r ≤ 59 ∧ m0 = m') := by
  generalize hQ : (fun (v : zV) (m' : zM) => ∃ r : Int, v = (0, r) ∧ (-5) ≤ r ∧ r ≤ 59 ∧ m0 = m') = Q
  show zW E d 75 0 [(2, 60), (0, a0), (0, a1), (9, 0), (9, 0)] [] m0 Q
  refine zw_3 zr_75_0 rfl ?_
  refine zw_9 (L' := [(2, 60), (0, a0), (0, a1), (0, a0), (9, 0)]) zr_75_1 (Nat.le_of_ble_eq_true rfl) rfl ?_
  refine zw_push zr_75_2 ?_
  refine zw_10 (L' := [(2, 60), (0, a0), (0, a1), (0, a0), (0, 0)]) zr_75_3 (Nat.le_of_ble_eq_true rfl) rfl ?_
  have lp5_3 : ∀ (nlp5_3 : Nat) (i1 i2 : Int), 0 ≤ i1 → i1 ≤ 9 → 0 ≤ i2 → i2 ≤ 10 → (10 - i2).toNat < nlp5_3 → zW E (d) 75 5 [(2, 60), (0, a0), (0, a1), (0, i1), (0, i2)] [] m0 Q := by
    intro nlp5_3
    induction nlp5_3 with
    | zero =>
      intros
      exact absurd (by assumption : _ < 0) (Nat.not_lt_zero _)
    | succ nlp5_3 ihlp5_3 =>
      intro i1 i2 li1 ui1 li2 ui2 hmlp5_3
      refine zw_4 zr_75_5 rfl ?_
      refine zw_3 zr_75_7 rfl ?_
      refine zw_41_3 zr_75_8 ?_ ?_
      · intro h5
        refine zw_7 zr_75_30 rfl ?_
        refine zw_3 zr_75_31 rfl ?_
        refine zw_7 zr_75_32 rfl ?_
        refine zw_3 zr_75_33 rfl ?_
        refine zw_C zr_75_34 (Or.inl rfl) zm_73 rfl rfl ⟨Nat.le_of_ble_eq_true rfl, Nat.le_of_ble_eq_true rfl, Nat.le_of_ble_eq_true rfl, rfl, by decide⟩ (by omega) (th_73 (d := d - 1) (by omega) hI0 (a0 := i1)      (by omega) ) ?_
        rintro _ _ ⟨r6, rfl, hr6a, hr6b, rfl⟩
        show zW E (d) 75 37 [(2, 60), (0, a0), (0, a1), (0, i1), (0, i2)] [(0, r6), (0, i1), (2, 60)] m0 Q
        refine zw_C zr_75_37 (Or.inl rfl) zm_74 rfl rfl ⟨Nat.le_of_ble_eq_true rfl, Nat.le_of_ble_eq_true rfl, Nat.le_of_ble_eq_true rfl, rfl, by decide⟩ (by omega) (th_74 (d := d - 1) (by omega) hI0 (a0 := i1) (a1 := r6)      (by omega) (by omega) ) ?_
        rintro _ _ ⟨r7, rfl, hr7a, hr7b, rfl⟩
        show zW E (d) 75 40 [(2, 60), (0, a0), (0, a1), (0, i1), (0, i2)] [(0, r7)] m0 Q
        refine zw_R zr_75_40 (by decide) zm_75 (v := (0, r7)) rfl ?_
        rw [← hQ]; exact ⟨_, rfl, by omega, by omega, rfl⟩
      · intro h8
        refine zw_4 zr_75_11 rfl ?_
        refine zw_push zr_75_13 ?_
        refine zw_41_3 zr_75_15 ?_ ?_
        · intro h9
          refine zw_7 zr_75_30 rfl ?_
          refine zw_3 zr_75_31 rfl ?_
          refine zw_7 zr_75_32 rfl ?_
          refine zw_3 zr_75_33 rfl ?_
          refine zw_C zr_75_34 (Or.inl rfl) zm_73 rfl rfl ⟨Nat.le_of_ble_eq_true rfl, Nat.le_of_ble_eq_true rfl, Nat.le_of_ble_eq_true rfl, rfl, by decide⟩ (by omega) (th_73 (d := d - 1) (by omega) hI0 (a0 := i1)      (by omega) ) ?_
          rintro _ _ ⟨r10, rfl, hr10a, hr10b, rfl⟩
          show zW E (d) 75 37 [(2, 60), (0, a0), (0, a1), (0, i1), (0, i2)] [(0, r10), (0, i1), (2, 60)] m0 Q
          refine zw_C zr_75_37 (Or.inl rfl) zm_74 rfl rfl ⟨Nat.le_of_ble_eq_true rfl, Nat.le_of_ble_eq_true rfl, Nat.le_of_ble_eq_true rfl, rfl, by decide⟩ (by omega) (th_74 (d := d - 1) (by omega) hI0 (a0 := i1) (a1 := r10)      (by omega) (by omega) ) ?_
          rintro _ _ ⟨r11, rfl, hr11a, hr11b, rfl⟩
          show zW E (d) 75 40 [(2, 60), (0, a0), (0, a1), (0, i1), (0, i2)] [(0, r11)] m0 Q
          refine zw_R zr_75_40 (by decide) zm_75 (v := (0, r11)) rfl ?_
          rw [← hQ]; exact ⟨_, rfl, by omega, by omega, rfl⟩
        · intro h12
          refine zw_7 zr_75_18 rfl ?_
          refine zw_3 zr_75_19 rfl ?_
          refine zw_C zr_75_20 (Or.inl rfl) zm_73 rfl rfl ⟨Nat.le_of_ble_eq_true rfl, Nat.le_of_ble_eq_true rfl, Nat.le_of_ble_eq_true rfl, rfl, by decide⟩ (by omega) (th_73 (d := d - 1) (by omega) hI0 (a0 := i1)      (by omega) ) ?_
          rintro _ _ ⟨r13, rfl, hr13a, hr13b, rfl⟩
          show zW E (d) 75 23 [(2, 60), (0, a0), (0, a1), (0, i1), (0, i2)] [(0, r13)] m0 Q
          refine zw_9 (L' := [(2, 60), (0, a0), (0, a1), (0, r13), (0, i2)]) zr_75_23 (Nat.le_of_ble_eq_true rfl) rfl ?_
          refine zw_15 (c := 1) (L' := [(2, 60), (0, a0), (0, a1), (0, r13), (0, (i2 + 1))]) zr_75_24 rfl (by decide) (by omega) rfl ?_
          refine zw_42 zr_75_27 ?_
          exact zw_less (L := [(2, 60), (0, a0), (0, a1), (0, r13), (0, (i2 + 1))]) ⟨Or.inr rfl, Or.inr rfl, Or.inr rfl, Or.inr rfl, Or.inr rfl, trivial⟩ (ihlp5_3 (r13) ((i2 + 1))  (by omega) (by omega) (by omega) (by omega)  (by omega))
  exact lp5_3 _ (a0) (0)  (by omega) (by omega) (by omega) (by omega)  (Nat.lt_succ_self _)

abbrev W_121 : List (Nat × Nat) := [(61, 1000), (62, 1000)]
set_option maxHeartbeats 8000000 in
theorem th_121 {E : zE} {d : Nat} {m0 : zM} {a0 : Int} {a1 : Int} {a2 : Int} (hd : 5 ≤ d) (hI0 : zInv m0) (ha0 : (-2147483648) ≤ a0 ∧ a0 ≤ 2147483647) (ha1 : (-2147483648) ≤ a1 ∧ a1 ≤ 2147483647) (ha2 : (-2147483648) ≤ a2 ∧ a2 ≤ 2147483647) : zC E d 121 [(2, 0), (0, a0), (0, a1), (0, a2)] m0 (fun v m' => ∃ r : Int, v = (0, r) ∧ (-2147483648) ≤ r ∧ r ≤ 2147483647 ∧ zInv m' ∧ zFr W_121 m0 m') := by
  have hF0 : zFr W_121 m0 m0 := zFr.rfl
  generalize hQ : (fun (v : zV) (m' : zM) => ∃ r : Int, v = (0, r) ∧ (-2147483648) ≤ r ∧ r ≤ 2147483647 ∧ zInv m' ∧ zFr W_121 m0 m') = Q
  show zW E d 121 0 [(2, 0), (0, a0), (0, a1), (0, a2), (9, 0)] [] m0 Q
  refine zw_7 zr_121_0 rfl ?_
  refine zw_46r (s := 1) zr_121_1 rfl rfl rfl rfl ?_
  refine zw_3 zr_121_4 rfl ?_
  refine zw_C zr_121_5 (Or.inl rfl) zm_49 rfl rfl ⟨Nat.le_of_ble_eq_true rfl, Nat.le_of_ble_eq_true rfl, Nat.le_of_ble_eq_true rfl, rfl, by decide⟩ (by omega) (P := (fun v m' => zW E (d) 121 8 [(2, 0), (0, a0), (0, a1), (0, a2), (9, 0)] (if v.1 = 9 then [] else v :: []) m' Q)) ?_ (fun _ _ h => h)
  generalize hQ1 : (fun v m' => zW E (d) 121 8 [(2, 0), (0, a0), (0, a1), (0, a2), (9, 0)] (if v.1 = 9 then [] else v :: []) m' Q) = Q1
  show zW E (d - 1) 49 0 [(2, 1), (0, a0)] [] m0 Q1
  refine zw_3 zr_49_0 rfl ?_
  refine zw_40_0 zr_49_1 ?_ ?_
  · intro h1
    refine zw_push zr_49_16 ?_
    refine zw_R zr_49_17 (by decide) zm_49 (v := (0, 0)) (zRetB (by omega)) ?_
    rw [← hQ1]
    show zW E (d) 121 8 [(2, 0), (0, a0), (0, a1), (0, a2), (9, 0)] [(0, 0)] m0 Q
    refine zw_40_1 zr_121_8 ?_ ?_
    · intro h2
      refine zw_push zr_121_27 ?_
      refine zw_R zr_121_29 (by decide) zm_121 (v := (0, (-10))) rfl ?_
      rw [← hQ]; exact ⟨_, rfl, by omega, by omega, hI0, hF0⟩
    · intro h3; omega
  · intro h4
    refine zw_3 zr_49_4 rfl ?_
    refine zw_7 zr_49_5 rfl ?_
    obtain ⟨f5, ef5⟩ : ∃ v, m0 1 0 = v := ⟨_, rfl⟩
    have bf5 := ib_1_0 hI0
    rw [ef5] at bf5
    refine zw_46i zr_49_6 ef5 rfl rfl rfl ?_
    refine zw_41_3 zr_49_9 ?_ ?_
    · intro h6
      refine zw_push zr_49_16 ?_
      refine zw_R zr_49_17 (by decide) zm_49 (v := (0, 0)) (zRetB (by omega)) ?_
      rw [← hQ1]
      show zW E (d) 121 8 [(2, 0), (0, a0), (0, a1), (0, a2), (9, 0)] [(0, 0)] m0 Q
      refine zw_40_1 zr_121_8 ?_ ?_
      · intro h7
        refine zw_push zr_121_27 ?_
        refine zw_R zr_121_29 (by decide) zm_121 (v := (0, (-10))) rfl ?_
        rw [← hQ]; exact ⟨_, rfl, by omega, by omega, hI0, hF0⟩
      · intro h8; omega
    · intro h9
      refine zw_push zr_49_12 ?_
      refine zw_42 zr_49_13 ?_
      refine zw_R zr_49_17 (by decide) zm_49 (v := (0, 1)) (zRetB (by omega)) ?_
      rw [← hQ1]
      show zW E (d) 121 8 [(2, 0), (0, a0), (0, a1), (0, a2), (9, 0)] [(0, 1)] m0 Q
      refine zw_40_1 zr_121_8 ?_ ?_
      · intro h10; omega
      · intro h11
        refine zw_7 zr_121_11 rfl ?_
        refine zw_46r (s := 1) zr_121_12 rfl rfl rfl rfl ?_
        refine zw_3 zr_121_15 rfl ?_
        refine zw_C zr_121_16 (Or.inl rfl) zm_49 rfl rfl ⟨Nat.le_of_ble_eq_true rfl, Nat.le_of_ble_eq_true rfl, Nat.le_of_ble_eq_true rfl, rfl, by decide⟩ (by omega) (P := (fun v m' => zW E (d) 121 19 [(2, 0), (0, a0), (0, a1), (0, a2), (9, 0)] (if v.1 = 9 then [] else v :: []) m' Q)) ?_ (fun _ _ h => h)
        generalize hQ1 : (fun v m' => zW E (d) 121 19 [(2, 0), (0, a0), (0, a1), (0, a2), (9, 0)] (if v.1 = 9 then [] else v :: []) m' Q) = Q1
        show zW E (d - 1) 49 0 [(2, 1), (0, a1)] [] m0 Q1
        refine zw_3 zr_49_0 rfl ?_
        refine zw_40_0 zr_49_1 ?_ ?_
        · intro h12
          refine zw_push zr_49_16 ?_
          refine zw_R zr_49_17 (by decide) zm_49 (v := (0, 0)) (zRetB (by omega)) ?_
          rw [← hQ1]
          show zW E (d) 121 19 [(2, 0), (0, a0), (0, a1), (0, a2), (9, 0)] [(0, 0)] m0 Q
          refine zw_40_1 zr_121_19 ?_ ?_
          · intro h13
            refine zw_push zr_121_27 ?_
            refine zw_R zr_121_29 (by decide) zm_121 (v := (0, (-10))) rfl ?_
            rw [← hQ]; exact ⟨_, rfl, by omega, by omega, hI0, hF0⟩
          · intro h14; omega
        · intro h15
          refine zw_3 zr_49_4 rfl ?_
          refine zw_7 zr_49_5 rfl ?_
          refine zw_46i zr_49_6 ef5 rfl rfl rfl ?_
          refine zw_41_3 zr_49_9 ?_ ?_
          · intro h16
            refine zw_push zr_49_16 ?_
            refine zw_R zr_49_17 (by decide) zm_49 (v := (0, 0)) (zRetB (by omega)) ?_
            rw [← hQ1]
            show zW E (d) 121 19 [(2, 0), (0, a0), (0, a1), (0, a2), (9, 0)] [(0, 0)] m0 Q
            refine zw_40_1 zr_121_19 ?_ ?_
            · intro h17
              refine zw_push zr_121_27 ?_
              refine zw_R zr_121_29 (by decide) zm_121 (v := (0, (-10))) rfl ?_
              rw [← hQ]; exact ⟨_, rfl, by omega, by omega, hI0, hF0⟩
            · intro h18; omega
          · intro h19
            refine zw_push zr_49_12 ?_
            refine zw_42 zr_49_13 ?_
            refine zw_R zr_49_17 (by decide) zm_49 (v := (0, 1)) (zRetB (by omega)) ?_
            rw [← hQ1]
            show zW E (d) 121 19 [(2, 0), (0, a0), (0, a1), (0, a2), (9, 0)] [(0, 1)] m0 Q
            refine zw_40_1 zr_121_19 ?_ ?_
            · intro h20; omega
            · intro h21
              refine zw_3 zr_121_22 rfl ?_
              refine zw_push zr_121_23 ?_
              refine zw_41_3 zr_121_24 ?_ ?_
              · intro h22
                refine zw_7 zr_121_30 rfl ?_
                refine zw_46r (s := 60) zr_121_31 rfl rfl rfl rfl ?_
                refine zw_3 zr_121_34 rfl ?_
                refine zw_3 zr_121_35 rfl ?_
                refine zw_C zr_121_36 (Or.inl rfl) zm_72 rfl rfl ⟨Nat.le_of_ble_eq_true rfl, Nat.le_of_ble_eq_true rfl, Nat.le_of_ble_eq_true rfl, rfl, by decide⟩ (by omega) (th_72 (d := d - 1) (by omega) hI0 (a0 := a0) (a1 := a1)      (by omega) (by omega) ) ?_
                rintro _ m23 ⟨r24, rfl, hr24a, hr24b, hIm23, gm23⟩
                have hFm23 : zFr W_121 m0 m23 := hF0.trans gm23 rfl
                have km23_1_0 : m23 1 0 = f5 := (gm23 1 0 rfl).trans ef5
                show zW E (d) 121 39 [(2, 0), (0, a0), (0, a1), (0, a2), (9, 0)] [(0, r24)] m23 Q
                refine zw_10 (L' := [(2, 0), (0, a0), (0, a1), (0, a2), (0, r24)]) zr_121_39 (Nat.le_of_ble_eq_true rfl) rfl ?_
                refine zw_3 zr_121_41 rfl ?_
                refine zw_push zr_121_42 ?_
                refine zw_41_4 zr_121_43 ?_ ?_
                · intro h25
                  refine zw_3 zr_121_49 rfl ?_
                  refine zw_4 zr_121_50 rfl ?_
                  refine zw_41_3 zr_121_52 ?_ ?_
                  · intro h26
                    refine zw_push zr_121_67 ?_
                    refine zw_R zr_121_69 (by decide) zm_121 (v := (0, (-5))) rfl ?_
                    rw [← hQ]; exact ⟨_, rfl, by omega, by omega, hIm23, hFm23⟩
                  · intro h27
                    refine zw_7 zr_121_55 rfl ?_
                    refine zw_46r (s := 60) zr_121_56 rfl rfl rfl rfl ?_
                    refine zw_3 zr_121_59 rfl ?_
                    refine zw_3 zr_121_60 rfl ?_
                    refine zw_C zr_121_61 (Or.inl rfl) zm_75 rfl rfl ⟨Nat.le_of_ble_eq_true rfl, Nat.le_of_ble_eq_true rfl, Nat.le_of_ble_eq_true rfl, rfl, by decide⟩ (by omega) (th_75 (d := d - 1) (by omega) hIm23 (a0 := a0) (a1 := a2)      (by omega) (by omega) ) ?_
                    rintro _ _ ⟨r28, rfl, hr28a, hr28b, rfl⟩
                    show zW E (d) 121 64 [(2, 0), (0, a0), (0, a1), (0, a2), (0, r24)] [(0, r28)] m23 Q
                    refine zw_42 zr_121_64 ?_
                    refine zw_R zr_121_69 (by decide) zm_121 (v := (0, r28)) rfl ?_
                    rw [← hQ]; exact ⟨_, rfl, by omega, by omega, hIm23, hFm23⟩
                · intro h29
                  refine zw_4 zr_121_46 rfl ?_
                  refine zw_R zr_121_48 (by decide) zm_121 (v := (0, r24)) rfl ?_
                  rw [← hQ]; exact ⟨_, rfl, by omega, by omega, hIm23, hFm23⟩
              · intro h30
                refine zw_push zr_121_27 ?_
                refine zw_R zr_121_29 (by decide) zm_121 (v := (0, (-10))) rfl ?_
                rw [← hQ]; exact ⟨_, rfl, by omega, by omega, hI0, hF0⟩

abbrev W_191 : List (Nat × Nat) := [(81, 1000)]
set_option maxHeartbeats 8000000 in
theorem th_191 {E : zE} {d : Nat} {m0 : zM} {a0 : Int} {a1 : Int} {a2 : Int} (hd : 4 ≤ d) (hI0 : zInv m0) (ha0 : (-2147483648) ≤ a0 ∧ a0 ≤ 2147483647) (ha1 : (-2147483648) ≤ a1 ∧ a1 ≤ 2147483647) (ha2 : (-2147483648) ≤ a2 ∧ a2 ≤ 2147483647) : zC E d 191 [(2, 69), (0, a0), (0, a1), (0, a2)] m0 (fun v m' => ∃ r : Int, v = (0, r) ∧ (-10) ≤ r ∧ r ≤ 99999999 ∧ zInv m' ∧ zFr W_191 m0 m') := by
  have hF0 : zFr W_191 m0 m0 := zFr.rfl
  generalize hQ : (fun (v : zV) (m' : zM) => ∃ r : Int, v = (0, r) ∧ (-10) ≤ r ∧ r ≤ 99999999 ∧ zInv m' ∧ zFr W_191 m0 m') = Q
  show zW E d 191 0 [(2, 69), (0, a0), (0, a1), (0, a2), (9, 0), (9, 0), (9, 0), (9, 0), (9, 0), (9, 0)] [] m0 Q
  refine zw_7 zr_191_0 rfl ?_
  refine zw_3 zr_191_1 rfl ?_
  refine zw_C zr_191_2 (Or.inl rfl) zm_143 rfl rfl ⟨Nat.le_of_ble_eq_true rfl, Nat.le_of_ble_eq_true rfl, Nat.le_of_ble_eq_true rfl, rfl, by decide⟩ (by omega) (P := (fun v m' => zW E (d) 191 5 [(2, 69), (0, a0), (0, a1), (0, a2), (9, 0), (9, 0), (9, 0), (9, 0), (9, 0), (9, 0)] (if v.1 = 9 then [] else v :: []) m' Q)) ?_ (fun _ _ h => h)
  generalize hQ1 : (fun v m' => zW E (d) 191 5 [(2, 69), (0, a0), (0, a1), (0, a2), (9, 0), (9, 0), (9, 0), (9, 0), (9, 0), (9, 0)] (if v.1 = 9 then [] else v :: []) m' Q) = Q1
  show zW E (d - 1) 143 0 [(2, 69), (0, a0)] [] m0 Q1
  refine zw_3 zr_143_0 rfl ?_
  refine zw_36 zr_143_1 ?_
  refine zw_push zr_143_2 ?_
  refine zw_7 zr_143_3 rfl ?_
  refine zw_C zr_143_4 (Or.inl rfl) zm_141 rfl rfl ⟨Nat.le_of_ble_eq_true rfl, Nat.le_of_ble_eq_true rfl, Nat.le_of_ble_eq_true rfl, rfl, by decide⟩ (by omega) (P := (fun v m' => zW E (d - 1) 143 7 [(2, 69), (0, a0)] (if v.1 = 9 then [(1, 0), (1, a0)] else v :: [(1, 0), (1, a0)]) m' Q1)) ?_ (fun _ _ h => h)
  generalize hQ2 : (fun v m' => zW E (d - 1) 143 7 [(2, 69), (0, a0)] (if v.1 = 9 then [(1, 0), (1, a0)] else v :: [(1, 0), (1, a0)]) m' Q1) = Q2
  show zW E (d - 1 - 1) 141 0 [(2, 69)] [] m0 Q2
  refine zw_7 zr_141_0 rfl ?_
  refine zw_46r (s := 70) zr_141_1 rfl rfl rfl rfl ?_
  refine zw_push zr_141_4 ?_
  obtain ⟨f1, ef1⟩ : ∃ v, m0 70 822 = v := ⟨_, rfl⟩
  have bf1 : 0 ≤ m0 70 822 ∧ m0 70 822 ≤ 10 := ib_70_players hI0 (by omega)
  rw [ef1] at bf1
  refine zw_48k (c := 70) (len := 826) zr_141_7 rfl rfl (by omega) (by omega) (show (822 : Int).toNat = 822 by omega) ef1 ?_
  refine zw_R zr_141_8 (by decide) zm_141 (v := (0, f1)) rfl ?_
  rw [← hQ2]
  show zW E (d - 1) 143 7 [(2, 69), (0, a0)] [(0, f1), (1, 0), (1, a0)] m0 Q1
  refine zw_push zr_143_7 ?_
  refine zw_17 zr_143_8 (by omega) ?_
  refine zw_36 zr_143_9 ?_
  refine zw_C zr_143_10 (Or.inr rfl) zm_140 rfl rfl ⟨Nat.le_of_ble_eq_true rfl, Nat.le_of_ble_eq_true rfl, Nat.le_of_ble_eq_true rfl, rfl, by decide⟩ (by omega) (P := (fun v m' => zW E (d - 1) 143 13 [(2, 69), (0, a0)] (if v.1 = 9 then [] else v :: []) m' Q1)) ?_ (fun _ _ h => h)
  generalize hQ2 : (fun v m' => zW E (d - 1) 143 13 [(2, 69), (0, a0)] (if v.1 = 9 then [] else v :: []) m' Q1) = Q2
  show zW E (d - 1 - 1) 140 0 [(1, a0), (9, 0), (1, 0), (9, 0), (1, (f1 - 1)), (9, 0)] [] m0 Q2
  refine zw_5 zr_140_0 rfl ?_
  refine zw_5 zr_140_1 rfl ?_
  refine zw_39_0 zr_140_2 zr_140_3 ?_ ?_
  · intro h2
    refine zw_push zr_140_17 ?_
    refine zw_R zr_140_18 (by decide) zm_140 (v := (0, 0)) (zRetB (by omega)) ?_
    rw [← hQ2]
    show zW E (d - 1) 143 13 [(2, 69), (0, a0)] [(0, 0)] m0 Q1
    refine zw_R zr_143_13 (by decide) zm_143 (v := (0, 0)) (zRetB (by omega)) ?_
    rw [← hQ1]
    show zW E (d) 191 5 [(2, 69), (0, a0), (0, a1), (0, a2), (9, 0), (9, 0), (9, 0), (9, 0), (9, 0), (9, 0)] [(0, 0)] m0 Q
    refine zw_40_1 zr_191_5 ?_ ?_
    · intro h3
      refine zw_push zr_191_21 ?_
      refine zw_R zr_191_23 (by decide) zm_191 (v := (0, (-10))) rfl ?_
      rw [← hQ]; exact ⟨_, rfl, by omega, by omega, hI0, hF0⟩
    · intro h4; omega
  · intro h5
    refine zw_5 zr_140_6 rfl ?_
    refine zw_6 zr_140_7 rfl ?_
    refine zw_39_2 zr_140_9 zr_140_10 ?_ ?_
    · intro h6
      refine zw_push zr_140_17 ?_
      refine zw_R zr_140_18 (by decide) zm_140 (v := (0, 0)) (zRetB (by omega)) ?_
      rw [← hQ2]
      show zW E (d - 1) 143 13 [(2, 69), (0, a0)] [(0, 0)] m0 Q1
      refine zw_R zr_143_13 (by decide) zm_143 (v := (0, 0)) (zRetB (by omega)) ?_
      rw [← hQ1]
      show zW E (d) 191 5 [(2, 69), (0, a0), (0, a1), (0, a2), (9, 0), (9, 0), (9, 0), (9, 0), (9, 0), (9, 0)] [(0, 0)] m0 Q
      refine zw_40_1 zr_191_5 ?_ ?_
      · intro h7
        refine zw_push zr_191_21 ?_
        refine zw_R zr_191_23 (by decide) zm_191 (v := (0, (-10))) rfl ?_
        rw [← hQ]; exact ⟨_, rfl, by omega, by omega, hI0, hF0⟩
      · intro h8; omega
    · intro h9
      refine zw_push zr_140_13 ?_
      refine zw_42 zr_140_14 ?_
      refine zw_R zr_140_18 (by decide) zm_140 (v := (0, 1)) (zRetB (by omega)) ?_
      rw [← hQ2]
      show zW E (d - 1) 143 13 [(2, 69), (0, a0)] [(0, 1)] m0 Q1
      refine zw_R zr_143_13 (by decide) zm_143 (v := (0, 1)) (zRetB (by omega)) ?_
      rw [← hQ1]
      show zW E (d) 191 5 [(2, 69), (0, a0), (0, a1), (0, a2), (9, 0), (9, 0), (9, 0), (9, 0), (9, 0), (9, 0)] [(0, 1)] m0 Q
      refine zw_40_1 zr_191_5 ?_ ?_
      · intro h10; omega
      · intro h11
        refine zw_7 zr_191_8 rfl ?_
        refine zw_3 zr_191_9 rfl ?_
        refine zw_C zr_191_10 (Or.inl rfl) zm_143 rfl rfl ⟨Nat.le_of_ble_eq_true rfl, Nat.le_of_ble_eq_true rfl, Nat.le_of_ble_eq_true rfl, rfl, by decide⟩ (by omega) (P := (fun v m' => zW E (d) 191 13 [(2, 69), (0, a0), (0, a1), (0, a2), (9, 0), (9, 0), (9, 0), (9, 0), (9, 0), (9, 0)] (if v.1 = 9 then [] else v :: []) m' Q)) ?_ (fun _ _ h => h)
        generalize hQ1 : (fun v m' => zW E (d) 191 13 [(2, 69), (0, a0), (0, a1), (0, a2), (9, 0), (9, 0), (9, 0), (9, 0), (9, 0), (9, 0)] (if v.1 = 9 then [] else v :: []) m' Q) = Q1
        show zW E (d - 1) 143 0 [(2, 69), (0, a1)] [] m0 Q1
        refine zw_3 zr_143_0 rfl ?_
        refine zw_36 zr_143_1 ?_
        refine zw_push zr_143_2 ?_
        refine zw_7 zr_143_3 rfl ?_
        refine zw_C zr_143_4 (Or.inl rfl) zm_141 rfl rfl ⟨Nat.le_of_ble_eq_true rfl, Nat.le_of_ble_eq_true rfl, Nat.le_of_ble_eq_true rfl, rfl, by decide⟩ (by omega) (P := (fun v m' => zW E (d - 1) 143 7 [(2, 69), (0, a1)] (if v.1 = 9 then [(1, 0), (1, a1)] else v :: [(1, 0), (1, a1)]) m' Q1)) ?_ (fun _ _ h => h)
        generalize hQ2 : (fun v m' => zW E (d - 1) 143 7 [(2, 69), (0, a1)] (if v.1 = 9 then [(1, 0), (1, a1)] else v :: [(1, 0), (1, a1)]) m' Q1) = Q2
        show zW E (d - 1 - 1) 141 0 [(2, 69)] [] m0 Q2
        refine zw_7 zr_141_0 rfl ?_
        refine zw_46r (s := 70) zr_141_1 rfl rfl rfl rfl ?_
        refine zw_push zr_141_4 ?_
        refine zw_48k (c := 70) (len := 826) zr_141_7 rfl rfl (by omega) (by omega) (show (822 : Int).toNat = 822 by omega) ef1 ?_
        refine zw_R zr_141_8 (by decide) zm_141 (v := (0, f1)) rfl ?_
        rw [← hQ2]
        show zW E (d - 1) 143 7 [(2, 69), (0, a1)] [(0, f1), (1, 0), (1, a1)] m0 Q1
        refine zw_push zr_143_7 ?_
        refine zw_17 zr_143_8 (by omega) ?_
        refine zw_36 zr_143_9 ?_
        refine zw_C zr_143_10 (Or.inr rfl) zm_140 rfl rfl ⟨Nat.le_of_ble_eq_true rfl, Nat.le_of_ble_eq_true rfl, Nat.le_of_ble_eq_true rfl, rfl, by decide⟩ (by omega) (P := (fun v m' => zW E (d - 1) 143 13 [(2, 69), (0, a1)] (if v.1 = 9 then [] else v :: []) m' Q1)) ?_ (fun _ _ h => h)
        generalize hQ2 : (fun v m' => zW E (d - 1) 143 13 [(2, 69), (0, a1)] (if v.1 = 9 then [] else v :: []) m' Q1) = Q2
        show zW E (d - 1 - 1) 140 0 [(1, a1), (9, 0), (1, 0), (9, 0), (1, (f1 - 1)), (9, 0)] [] m0 Q2
        refine zw_5 zr_140_0 rfl ?_
        refine zw_5 zr_140_1 rfl ?_
        refine zw_39_0 zr_140_2 zr_140_3 ?_ ?_
        · intro h12
          refine zw_push zr_140_17 ?_
          refine zw_R zr_140_18 (by decide) zm_140 (v := (0, 0)) (zRetB (by omega)) ?_
          rw [← hQ2]
          show zW E (d - 1) 143 13 [(2, 69), (0, a1)] [(0, 0)] m0 Q1
          refine zw_R zr_143_13 (by decide) zm_143 (v := (0, 0)) (zRetB (by omega)) ?_
          rw [← hQ1]
          show zW E (d) 191 13 [(2, 69), (0, a0), (0, a1), (0, a2), (9, 0), (9, 0), (9, 0), (9, 0), (9, 0), (9, 0)] [(0, 0)] m0 Q
          refine zw_40_1 zr_191_13 ?_ ?_
          · intro h13
            refine zw_push zr_191_21 ?_
            refine zw_R zr_191_23 (by decide) zm_191 (v := (0, (-10))) rfl ?_
            rw [← hQ]; exact ⟨_, rfl, by omega, by omega, hI0, hF0⟩
          · intro h14; omega
        · intro h15
          refine zw_5 zr_140_6 rfl ?_
          refine zw_6 zr_140_7 rfl ?_
          refine zw_39_2 zr_140_9 zr_140_10 ?_ ?_
          · intro h16
            refine zw_push zr_140_17 ?_
            refine zw_R zr_140_18 (by decide) zm_140 (v := (0, 0)) (zRetB (by omega)) ?_
            rw [← hQ2]
            show zW E (d - 1) 143 13 [(2, 69), (0, a1)] [(0, 0)] m0 Q1
            refine zw_R zr_143_13 (by decide) zm_143 (v := (0, 0)) (zRetB (by omega)) ?_
            rw [← hQ1]
            show zW E (d) 191 13 [(2, 69), (0, a0), (0, a1), (0, a2), (9, 0), (9, 0), (9, 0), (9, 0), (9, 0), (9, 0)] [(0, 0)] m0 Q
            refine zw_40_1 zr_191_13 ?_ ?_
            · intro h17
              refine zw_push zr_191_21 ?_
              refine zw_R zr_191_23 (by decide) zm_191 (v := (0, (-10))) rfl ?_
              rw [← hQ]; exact ⟨_, rfl, by omega, by omega, hI0, hF0⟩
            · intro h18; omega
          · intro h19
            refine zw_push zr_140_13 ?_
            refine zw_42 zr_140_14 ?_
            refine zw_R zr_140_18 (by decide) zm_140 (v := (0, 1)) (zRetB (by omega)) ?_
            rw [← hQ2]
            show zW E (d - 1) 143 13 [(2, 69), (0, a1)] [(0, 1)] m0 Q1
            refine zw_R zr_143_13 (by decide) zm_143 (v := (0, 1)) (zRetB (by omega)) ?_
            rw [← hQ1]
            show zW E (d) 191 13 [(2, 69), (0, a0), (0, a1), (0, a2), (9, 0), (9, 0), (9, 0), (9, 0), (9, 0), (9, 0)] [(0, 1)] m0 Q
            refine zw_40_1 zr_191_13 ?_ ?_
            · intro h20; omega
            · intro h21
              refine zw_3 zr_191_16 rfl ?_
              refine zw_push zr_191_17 ?_
              refine zw_41_3 zr_191_18 ?_ ?_
              · intro h22
                refine zw_7 zr_191_24 rfl ?_
                refine zw_3 zr_191_25 rfl ?_
                refine zw_push zr_191_26 ?_
                obtain ⟨f23, ef23⟩ : ∃ v, m0 70 823 = v := ⟨_, rfl⟩
                have bf23 : 0 ≤ m0 70 823 ∧ m0 70 823 ≤ 60 := ib_70_meetings hI0 (by omega)
                rw [ef23] at bf23
                refine zw_C zr_191_27 (Or.inl rfl) zm_188 rfl rfl ⟨Nat.le_of_ble_eq_true rfl, Nat.le_of_ble_eq_true rfl, Nat.le_of_ble_eq_true rfl, rfl, by decide⟩ (by omega) (th_188 (d := d - 1) (by omega) hI0 (a0 := a1) (a1 := (-1)) (g0 := f23)  (F70 := m0 70) (F81 := m0 81) ef23 rfl rfl (by omega) (by omega) ) ?_
                rintro _ m24 ⟨rfl, hIm24, gm24, po0_m24, po1_m24⟩
                have hFm24 : zFr W_191 m0 m24 := hF0.trans gm24 rfl
                have km24_70_822 : m24 70 822 = f1 := (gm24 70 822 rfl).trans ef1
                have km24_70_823 : m24 70 823 = f23 := (gm24 70 823 rfl).trans ef23
                show zW E (d) 191 30 [(2, 69), (0, a0), (0, a1), (0, a2), (9, 0), (9, 0), (9, 0), (9, 0), (9, 0), (9, 0)] [] m24 Q
                refine zw_7 zr_191_30 rfl ?_
                refine zw_46r (s := 81) zr_191_31 rfl rfl rfl rfl ?_
                refine zw_3 zr_191_34 rfl ?_
                refine zw_48 (c := 81) (len := 10) zr_191_35 rfl rfl (by omega) (by omega) ?_
                intro x25 ex25
                have bx25 := ib_81 hIm24 (k := (a0).toNat) (by omega)
                rw [← ex25] at bx25
                refine zw_push zr_191_36 ?_
                refine zw_41_0 zr_191_38 ?_ ?_
                · intro h26
                  refine zw_3 zr_191_44 rfl ?_
                  refine zw_push zr_191_45 ?_
                  refine zw_41_4 zr_191_46 ?_ ?_
                  · intro h27
                    refine zw_3 zr_191_56 rfl ?_
                    refine zw_7 zr_191_57 rfl ?_
                    refine zw_46r (s := 81) zr_191_58 rfl rfl rfl rfl ?_
                    refine zw_3 zr_191_61 rfl ?_
                    refine zw_48k (c := 81) (len := 10) zr_191_62 rfl rfl (by omega) (by omega) rfl ex25.symm ?_
                    refine zw_41_0 zr_191_63 ?_ ?_
                    · intro h28
                      refine zw_3 zr_191_69 rfl ?_
                      refine zw_10 (L' := [(2, 69), (0, a0), (0, a1), (0, a2), (0, a0), (9, 0), (9, 0), (9, 0), (9, 0), (9, 0)]) zr_191_70 (Nat.le_of_ble_eq_true rfl) rfl ?_
                      refine zw_push zr_191_72 ?_
                      refine zw_10 (L' := [(2, 69), (0, a0), (0, a1), (0, a2), (0, a0), (0, (-1)), (9, 0), (9, 0), (9, 0), (9, 0)]) zr_191_73 (Nat.le_of_ble_eq_true rfl) rfl ?_
                      refine zw_push zr_191_75 ?_
                      refine zw_10 (L' := [(2, 69), (0, a0), (0, a1), (0, a2), (0, a0), (0, (-1)), (0, 0), (9, 0), (9, 0), (9, 0)]) zr_191_76 (Nat.le_of_ble_eq_true rfl) rfl ?_
                      have lp78_32 : ∀ (nlp78_32 : Nat) (i29 i30 i31 : Int), (-1) ≤ i29 → i29 ≤ 9 → (-1) ≤ i30 → i30 ≤ 59 → 0 ≤ i31 → i31 ≤ 2147483647 → (2147483647 - i31).toNat < nlp78_32 → zW E (d) 191 78 [(2, 69), (0, a0), (0, a1), (0, a2), (0, i29), (0, i30), (0, i31), (9, 0), (9, 0), (9, 0)] [] m24 Q := by
                        intro nlp78_32
                        induction nlp78_32 with
                        | zero =>
                          intros
                          exact absurd (by assumption : _ < 0) (Nat.not_lt_zero _)
                        | succ nlp78_32 ihlp78_32 =>
                          intro i29 i30 i31 li29 ui29 li30 ui30 li31 ui31 hmlp78_32
                          refine zw_4 zr_191_78 rfl ?_
                          refine zw_3 zr_191_80 rfl ?_
                          refine zw_41_2 zr_191_81 ?_ ?_
                          · intro h34
                            refine zw_4 zr_191_195 rfl ?_
                            refine zw_R zr_191_197 (by decide) zm_191 (v := (0, i30)) rfl ?_
                            rw [← hQ]; exact ⟨_, rfl, by omega, by omega, hIm24, hFm24⟩
                          · intro h35
                            refine zw_push zr_191_84 ?_
                            refine zw_10 (L' := [(2, 69), (0, a0), (0, a1), (0, a2), (0, i29), (0, i30), (0, i31), (0, (-1)), (9, 0), (9, 0)]) zr_191_85 (Nat.le_of_ble_eq_true rfl) rfl ?_
                            refine zw_push zr_191_87 ?_
                            refine zw_10 (L' := [(2, 69), (0, a0), (0, a1), (0, a2), (0, i29), (0, i30), (0, i31), (0, (-1)), (0, 0), (9, 0)]) zr_191_88 (Nat.le_of_ble_eq_true rfl) rfl ?_
                            have lp90_39 : ∀ (nlp90_39 : Nat) (i36 i37 i38 : Int), (-1) ≤ i36 → i36 ≤ 59 → (-1) ≤ i37 → i37 ≤ 9 → 0 ≤ i38 → i38 ≤ 60 → (60 - i38).toNat < nlp90_39 → zW E (d) 191 90 [(2, 69), (0, a0), (0, a1), (0, a2), (0, i29), (0, i36), (0, i31), (0, i37), (0, i38), (9, 0)] [] m24 Q := by
                              intro nlp90_39
                              induction nlp90_39 with
                              | zero =>
                                intros
                                exact absurd (by assumption : _ < 0) (Nat.not_lt_zero _)
                              | succ nlp90_39 ihlp90_39 =>
                                intro i36 i37 i38 li36 ui36 li37 ui37 li38 ui38 hmlp90_39
                                refine zw_4 zr_191_90 rfl ?_
                                refine zw_7 zr_191_92 rfl ?_
                                refine zw_C zr_191_93 (Or.inl rfl) zm_142 rfl rfl ⟨Nat.le_of_ble_eq_true rfl, Nat.le_of_ble_eq_true rfl, Nat.le_of_ble_eq_true rfl, rfl, by decide⟩ (by omega) (P := (fun v m' => zW E (d) 191 96 [(2, 69), (0, a0), (0, a1), (0, a2), (0, i29), (0, i36), (0, i31), (0, i37), (0, i38), (9, 0)] (if v.1 = 9 then [(0, i38)] else v :: [(0, i38)]) m' Q)) ?_ (fun _ _ h => h)
                                generalize hQ1 : (fun v m' => zW E (d) 191 96 [(2, 69), (0, a0), (0, a1), (0, a2), (0, i29), (0, i36), (0, i31), (0, i37), (0, i38), (9, 0)] (if v.1 = 9 then [(0, i38)] else v :: [(0, i38)]) m' Q) = Q1
                                show zW E (d - 1) 142 0 [(2, 69)] [] m24 Q1
                                refine zw_7 zr_142_0 rfl ?_
                                refine zw_46r (s := 70) zr_142_1 rfl rfl rfl rfl ?_
                                refine zw_push zr_142_4 ?_
                                refine zw_48k (c := 70) (len := 826) zr_142_7 rfl rfl (by omega) (by omega) (show (823 : Int).toNat = 823 by omega) km24_70_823 ?_
                                refine zw_R zr_142_8 (by decide) zm_142 (v := (0, f23)) rfl ?_
                                rw [← hQ1]
                                show zW E (d) 191 96 [(2, 69), (0, a0), (0, a1), (0, a2), (0, i29), (0, i36), (0, i31), (0, i37), (0, i38), (9, 0)] [(0, f23), (0, i38)] m24 Q
                                refine zw_41_3 zr_191_96 ?_ ?_
                                · intro h41
                                  refine zw_4 zr_191_185 rfl ?_
                                  refine zw_10 (L' := [(2, 69), (0, a0), (0, a1), (0, a2), (0, i37), (0, i36), (0, i31), (0, i37), (0, i38), (9, 0)]) zr_191_187 (Nat.le_of_ble_eq_true rfl) rfl ?_
                                  refine zw_15 (c := 1) (L' := [(2, 69), (0, a0), (0, a1), (0, a2), (0, i37), (0, i36), (0, (i31 + 1)), (0, i37), (0, i38), (9, 0)]) zr_191_189 rfl (by decide) (by omega) rfl ?_
                                  refine zw_42 zr_191_192 ?_
                                  exact zw_less (L := [(2, 69), (0, a0), (0, a1), (0, a2), (0, i37), (0, i36), (0, (i31 + 1)), (9, 0), (9, 0), (9, 0)]) ⟨Or.inr rfl, Or.inr rfl, Or.inr rfl, Or.inr rfl, Or.inr rfl, Or.inr rfl, Or.inr rfl, Or.inl rfl, Or.inl rfl, Or.inl rfl, trivial⟩ (ihlp78_32 (i37) (i36) ((i31 + 1))  (by omega) (by omega) (by omega) (by omega) (by omega) (by omega)  (by omega))
                                · intro h42
                                  refine zw_7 zr_191_99 rfl ?_
                                  refine zw_4 zr_191_100 rfl ?_
                                  refine zw_C zr_191_102 (Or.inl rfl) zm_181 rfl rfl ⟨Nat.le_of_ble_eq_true rfl, Nat.le_of_ble_eq_true rfl, Nat.le_of_ble_eq_true rfl, rfl, by decide⟩ (by omega) (P := (fun v m' => zW E (d) 191 105 [(2, 69), (0, a0), (0, a1), (0, a2), (0, i29), (0, i36), (0, i31), (0, i37), (0, i38), (9, 0)] (if v.1 = 9 then [] else v :: []) m' Q)) ?_ (fun _ _ h => h)
                                  generalize hQ1 : (fun v m' => zW E (d) 191 105 [(2, 69), (0, a0), (0, a1), (0, a2), (0, i29), (0, i36), (0, i31), (0, i37), (0, i38), (9, 0)] (if v.1 = 9 then [] else v :: []) m' Q) = Q1
                                  show zW E (d - 1) 181 0 [(2, 69), (0, i38)] [] m24 Q1
                                  refine zw_7 zr_181_0 rfl ?_
                                  refine zw_3 zr_181_1 rfl ?_
                                  refine zw_push zr_181_2 ?_
                                  refine zw_C zr_181_3 (Or.inl rfl) zm_144 rfl rfl ⟨Nat.le_of_ble_eq_true rfl, Nat.le_of_ble_eq_true rfl, Nat.le_of_ble_eq_true rfl, rfl, by decide⟩ (by omega) (P := (fun v m' => zW E (d - 1) 181 6 [(2, 69), (0, i38)] (if v.1 = 9 then [] else v :: []) m' Q1)) ?_ (fun _ _ h => h)
                                  generalize hQ2 : (fun v m' => zW E (d - 1) 181 6 [(2, 69), (0, i38)] (if v.1 = 9 then [] else v :: []) m' Q1) = Q2
                                  show zW E (d - 1 - 1) 144 0 [(2, 69), (0, i38), (0, 4)] [] m24 Q2
                                  refine zw_7 zr_144_0 rfl ?_
                                  refine zw_46r (s := 70) zr_144_1 rfl rfl rfl rfl ?_
                                  refine zw_push zr_144_4 ?_
                                  refine zw_push zr_144_6 ?_
                                  refine zw_3 zr_144_8 rfl ?_
                                  refine zw_18 zr_144_9 (by omega) ?_
                                  refine zw_16 zr_144_10 (by omega) ?_
                                  refine zw_3 zr_144_11 rfl ?_
                                  refine zw_16 zr_144_12 (by omega) ?_
                                  refine zw_48 (c := 70) (len := 826) zr_144_13 rfl rfl (by omega) (by omega) ?_
                                  intro x43 ex43
                                  have bx43 := ib_70_m4 hIm24 (k := (((90 + (6 * i38)) + 4)).toNat) (by omega)
                                  rw [← ex43] at bx43
                                  refine zw_R zr_144_14 (by decide) zm_144 (v := (0, x43)) rfl ?_
                                  rw [← hQ2]
                                  show zW E (d - 1) 181 6 [(2, 69), (0, i38)] [(0, x43)] m24 Q1
                                  refine zw_40_4 zr_181_6 ?_ ?_
                                  · intro h44
                                    refine zw_push zr_181_22 ?_
                                    refine zw_R zr_181_23 (by decide) zm_181 (v := (0, 0)) (zRetB (by omega)) ?_
                                    rw [← hQ1]
                                    show zW E (d) 191 105 [(2, 69), (0, a0), (0, a1), (0, a2), (0, i29), (0, i36), (0, i31), (0, i37), (0, i38), (9, 0)] [(0, 0)] m24 Q
                                    refine zw_40_1 zr_191_105 ?_ ?_
                                    · intro h45
                                      refine zw_15 (c := 1) (L' := [(2, 69), (0, a0), (0, a1), (0, a2), (0, i29), (0, i36), (0, i31), (0, i37), (0, (i38 + 1)), (9, 0)]) zr_191_179 rfl (by decide) (by omega) rfl ?_
                                      refine zw_42 zr_191_182 ?_
                                      exact zw_less (L := [(2, 69), (0, a0), (0, a1), (0, a2), (0, i29), (0, i36), (0, i31), (0, i37), (0, (i38 + 1)), (9, 0)]) ⟨Or.inr rfl, Or.inr rfl, Or.inr rfl, Or.inr rfl, Or.inr rfl, Or.inr rfl, Or.inr rfl, Or.inr rfl, Or.inr rfl, Or.inl rfl, trivial⟩ (ihlp90_39 (i36) (i37) ((i38 + 1))  (by omega) (by omega) (by omega) (by omega) (by omega) (by omega)  (by omega))
                                    · intro h46; omega
                                  · intro h47
                                    refine zw_7 zr_181_9 rfl ?_
                                    refine zw_3 zr_181_10 rfl ?_
                                    refine zw_push zr_181_11 ?_
                                    refine zw_C zr_181_12 (Or.inl rfl) zm_144 rfl rfl ⟨Nat.le_of_ble_eq_true rfl, Nat.le_of_ble_eq_true rfl, Nat.le_of_ble_eq_true rfl, rfl, by decide⟩ (by omega) (P := (fun v m' => zW E (d - 1) 181 15 [(2, 69), (0, i38)] (if v.1 = 9 then [] else v :: []) m' Q1)) ?_ (fun _ _ h => h)
                                    generalize hQ2 : (fun v m' => zW E (d - 1) 181 15 [(2, 69), (0, i38)] (if v.1 = 9 then [] else v :: []) m' Q1) = Q2
                                    show zW E (d - 1 - 1) 144 0 [(2, 69), (0, i38), (0, 5)] [] m24 Q2
                                    refine zw_7 zr_144_0 rfl ?_
                                    refine zw_46r (s := 70) zr_144_1 rfl rfl rfl rfl ?_
                                    refine zw_push zr_144_4 ?_
                                    refine zw_push zr_144_6 ?_
                                    refine zw_3 zr_144_8 rfl ?_
                                    refine zw_18 zr_144_9 (by omega) ?_
                                    refine zw_16 zr_144_10 (by omega) ?_
                                    refine zw_3 zr_144_11 rfl ?_
                                    refine zw_16 zr_144_12 (by omega) ?_
                                    refine zw_48 (c := 70) (len := 826) zr_144_13 rfl rfl (by omega) (by omega) ?_
                                    intro x48 ex48
                                    have bx48 := ib_70_m5 hIm24 (k := (((90 + (6 * i38)) + 5)).toNat) (by omega)
                                    rw [← ex48] at bx48
                                    refine zw_R zr_144_14 (by decide) zm_144 (v := (0, x48)) rfl ?_
                                    rw [← hQ2]
                                    show zW E (d - 1) 181 15 [(2, 69), (0, i38)] [(0, x48)] m24 Q1
                                    refine zw_40_4 zr_181_15 ?_ ?_
                                    · intro h49
                                      refine zw_push zr_181_22 ?_
                                      refine zw_R zr_181_23 (by decide) zm_181 (v := (0, 0)) (zRetB (by omega)) ?_
                                      rw [← hQ1]
                                      show zW E (d) 191 105 [(2, 69), (0, a0), (0, a1), (0, a2), (0, i29), (0, i36), (0, i31), (0, i37), (0, i38), (9, 0)] [(0, 0)] m24 Q
                                      refine zw_40_1 zr_191_105 ?_ ?_
                                      · intro h50
                                        refine zw_15 (c := 1) (L' := [(2, 69), (0, a0), (0, a1), (0, a2), (0, i29), (0, i36), (0, i31), (0, i37), (0, (i38 + 1)), (9, 0)]) zr_191_179 rfl (by decide) (by omega) rfl ?_
                                        refine zw_42 zr_191_182 ?_
                                        exact zw_less (L := [(2, 69), (0, a0), (0, a1), (0, a2), (0, i29), (0, i36), (0, i31), (0, i37), (0, (i38 + 1)), (9, 0)]) ⟨Or.inr rfl, Or.inr rfl, Or.inr rfl, Or.inr rfl, Or.inr rfl, Or.inr rfl, Or.inr rfl, Or.inr rfl, Or.inr rfl, Or.inl rfl, trivial⟩ (ihlp90_39 (i36) (i37) ((i38 + 1))  (by omega) (by omega) (by omega) (by omega) (by omega) (by omega)  (by omega))
                                      · intro h51; omega
                                    · intro h52
                                      refine zw_push zr_181_18 ?_
                                      refine zw_42 zr_181_19 ?_
                                      refine zw_R zr_181_23 (by decide) zm_181 (v := (0, 1)) (zRetB (by omega)) ?_
                                      rw [← hQ1]
                                      show zW E (d) 191 105 [(2, 69), (0, a0), (0, a1), (0, a2), (0, i29), (0, i36), (0, i31), (0, i37), (0, i38), (9, 0)] [(0, 1)] m24 Q
                                      refine zw_40_1 zr_191_105 ?_ ?_
                                      · intro h53; omega
                                      · intro h54
                                        refine zw_7 zr_191_108 rfl ?_
                                        refine zw_4 zr_191_109 rfl ?_
                                        refine zw_4 zr_191_111 rfl ?_
                                        refine zw_C zr_191_113 (Or.inl rfl) zm_171 rfl rfl ⟨Nat.le_of_ble_eq_true rfl, Nat.le_of_ble_eq_true rfl, Nat.le_of_ble_eq_true rfl, rfl, by decide⟩ (by omega) (P := (fun v m' => zW E (d) 191 116 [(2, 69), (0, a0), (0, a1), (0, a2), (0, i29), (0, i36), (0, i31), (0, i37), (0, i38), (9, 0)] (if v.1 = 9 then [] else v :: []) m' Q)) ?_ (fun _ _ h => h)
                                        generalize hQ1 : (fun v m' => zW E (d) 191 116 [(2, 69), (0, a0), (0, a1), (0, a2), (0, i29), (0, i36), (0, i31), (0, i37), (0, i38), (9, 0)] (if v.1 = 9 then [] else v :: []) m' Q) = Q1
                                        show zW E (d - 1) 171 0 [(2, 69), (0, i38), (0, i29)] [] m24 Q1
                                        refine zw_7 zr_171_0 rfl ?_
                                        refine zw_3 zr_171_1 rfl ?_
                                        refine zw_push zr_171_2 ?_
                                        refine zw_C zr_171_3 (Or.inl rfl) zm_144 rfl rfl ⟨Nat.le_of_ble_eq_true rfl, Nat.le_of_ble_eq_true rfl, Nat.le_of_ble_eq_true rfl, rfl, by decide⟩ (by omega) (P := (fun v m' => zW E (d - 1) 171 6 [(2, 69), (0, i38), (0, i29)] (if v.1 = 9 then [] else v :: []) m' Q1)) ?_ (fun _ _ h => h)
                                        generalize hQ2 : (fun v m' => zW E (d - 1) 171 6 [(2, 69), (0, i38), (0, i29)] (if v.1 = 9 then [] else v :: []) m' Q1) = Q2
                                        show zW E (d - 1 - 1) 144 0 [(2, 69), (0, i38), (0, 1)] [] m24 Q2
                                        refine zw_7 zr_144_0 rfl ?_
                                        refine zw_46r (s := 70) zr_144_1 rfl rfl rfl rfl ?_
                                        refine zw_push zr_144_4 ?_
                                        refine zw_push zr_144_6 ?_
                                        refine zw_3 zr_144_8 rfl ?_
                                        refine zw_18 zr_144_9 (by omega) ?_
                                        refine zw_16 zr_144_10 (by omega) ?_
                                        refine zw_3 zr_144_11 rfl ?_
                                        refine zw_16 zr_144_12 (by omega) ?_
                                        refine zw_48 (c := 70) (len := 826) zr_144_13 rfl rfl (by omega) (by omega) ?_
                                        intro x55 ex55
                                        have bx55 := ib_70_m1 hIm24 (k := (((90 + (6 * i38)) + 1)).toNat) (by omega)
                                        rw [← ex55] at bx55
                                        refine zw_R zr_144_14 (by decide) zm_144 (v := (0, x55)) rfl ?_
                                        rw [← hQ2]
                                        show zW E (d - 1) 171 6 [(2, 69), (0, i38), (0, i29)] [(0, x55)] m24 Q1
                                        refine zw_3 zr_171_6 rfl ?_
                                        refine zw_41_1 zr_171_7 ?_ ?_
                                        · intro h56
                                          refine zw_push zr_171_20 ?_
                                          refine zw_42 zr_171_21 ?_
                                          refine zw_R zr_171_25 (by decide) zm_171 (v := (0, 1)) (zRetB (by omega)) ?_
                                          rw [← hQ1]
                                          show zW E (d) 191 116 [(2, 69), (0, a0), (0, a1), (0, a2), (0, i29), (0, i36), (0, i31), (0, i37), (0, i38), (9, 0)] [(0, 1)] m24 Q
                                          refine zw_40_1 zr_191_116 ?_ ?_
                                          · intro h57; omega
                                          · intro h58
                                            refine zw_7 zr_191_119 rfl ?_
                                            refine zw_4 zr_191_120 rfl ?_
                                            refine zw_push zr_191_122 ?_
                                            refine zw_C zr_191_123 (Or.inl rfl) zm_144 rfl rfl ⟨Nat.le_of_ble_eq_true rfl, Nat.le_of_ble_eq_true rfl, Nat.le_of_ble_eq_true rfl, rfl, by decide⟩ (by omega) (P := (fun v m' => zW E (d) 191 126 [(2, 69), (0, a0), (0, a1), (0, a2), (0, i29), (0, i36), (0, i31), (0, i37), (0, i38), (9, 0)] (if v.1 = 9 then [] else v :: []) m' Q)) ?_ (fun _ _ h => h)
                                            generalize hQ1 : (fun v m' => zW E (d) 191 126 [(2, 69), (0, a0), (0, a1), (0, a2), (0, i29), (0, i36), (0, i31), (0, i37), (0, i38), (9, 0)] (if v.1 = 9 then [] else v :: []) m' Q) = Q1
                                            show zW E (d - 1) 144 0 [(2, 69), (0, i38), (0, 1)] [] m24 Q1
                                            refine zw_7 zr_144_0 rfl ?_
                                            refine zw_46r (s := 70) zr_144_1 rfl rfl rfl rfl ?_
                                            refine zw_push zr_144_4 ?_
                                            refine zw_push zr_144_6 ?_
                                            refine zw_3 zr_144_8 rfl ?_
                                            refine zw_18 zr_144_9 (by omega) ?_
                                            refine zw_16 zr_144_10 (by omega) ?_
                                            refine zw_3 zr_144_11 rfl ?_
                                            refine zw_16 zr_144_12 (by omega) ?_
                                            refine zw_48k (c := 70) (len := 826) zr_144_13 rfl rfl (by omega) (by omega) rfl ex55.symm ?_
                                            refine zw_R zr_144_14 (by decide) zm_144 (v := (0, x55)) rfl ?_
                                            rw [← hQ1]
                                            show zW E (d) 191 126 [(2, 69), (0, a0), (0, a1), (0, a2), (0, i29), (0, i36), (0, i31), (0, i37), (0, i38), (9, 0)] [(0, x55)] m24 Q
                                            refine zw_7 zr_191_126 rfl ?_
                                            refine zw_4 zr_191_127 rfl ?_
                                            refine zw_push zr_191_129 ?_
                                            refine zw_C zr_191_130 (Or.inl rfl) zm_144 rfl rfl ⟨Nat.le_of_ble_eq_true rfl, Nat.le_of_ble_eq_true rfl, Nat.le_of_ble_eq_true rfl, rfl, by decide⟩ (by omega) (P := (fun v m' => zW E (d) 191 133 [(2, 69), (0, a0), (0, a1), (0, a2), (0, i29), (0, i36), (0, i31), (0, i37), (0, i38), (9, 0)] (if v.1 = 9 then [(0, x55)] else v :: [(0, x55)]) m' Q)) ?_ (fun _ _ h => h)
                                            generalize hQ1 : (fun v m' => zW E (d) 191 133 [(2, 69), (0, a0), (0, a1), (0, a2), (0, i29), (0, i36), (0, i31), (0, i37), (0, i38), (9, 0)] (if v.1 = 9 then [(0, x55)] else v :: [(0, x55)]) m' Q) = Q1
                                            show zW E (d - 1) 144 0 [(2, 69), (0, i38), (0, 2)] [] m24 Q1
                                            refine zw_7 zr_144_0 rfl ?_
                                            refine zw_46r (s := 70) zr_144_1 rfl rfl rfl rfl ?_
                                            refine zw_push zr_144_4 ?_
                                            refine zw_push zr_144_6 ?_
                                            refine zw_3 zr_144_8 rfl ?_
                                            refine zw_18 zr_144_9 (by omega) ?_
                                            refine zw_16 zr_144_10 (by omega) ?_
                                            refine zw_3 zr_144_11 rfl ?_
                                            refine zw_16 zr_144_12 (by omega) ?_
                                            refine zw_48 (c := 70) (len := 826) zr_144_13 rfl rfl (by omega) (by omega) ?_
                                            intro x59 ex59
                                            have bx59 := ib_70_m2 hIm24 (k := (((90 + (6 * i38)) + 2)).toNat) (by omega)
                                            rw [← ex59] at bx59
                                            clear ex59
                                            refine zw_R zr_144_14 (by decide) zm_144 (v := (0, x59)) rfl ?_
                                            rw [← hQ1]
                                            show zW E (d) 191 133 [(2, 69), (0, a0), (0, a1), (0, a2), (0, i29), (0, i36), (0, i31), (0, i37), (0, i38), (9, 0)] [(0, x59), (0, x55)] m24 Q
                                            refine zw_16 zr_191_133 (by omega) ?_
                                            refine zw_4 zr_191_134 rfl ?_
                                            refine zw_17 zr_191_136 (by omega) ?_
                                            refine zw_10 (L' := [(2, 69), (0, a0), (0, a1), (0, a2), (0, i29), (0, i36), (0, i31), (0, i37), (0, i38), (0, ((x55 + x59) - i29))]) zr_191_137 (Nat.le_of_ble_eq_true rfl) rfl ?_
                                            refine zw_7 zr_191_139 rfl ?_
                                            refine zw_46r (s := 81) zr_191_140 rfl rfl rfl rfl ?_
                                            refine zw_4 zr_191_143 rfl ?_
                                            refine zw_48 (c := 81) (len := 10) zr_191_145 rfl rfl (by omega) (by omega) ?_
                                            intro x60 ex60
                                            have bx60 := ib_81 hIm24 (k := (((x55 + x59) - i29)).toNat) (by omega)
                                            rw [← ex60] at bx60
                                            clear ex60
                                            refine zw_7 zr_191_146 rfl ?_
                                            refine zw_46r (s := 81) zr_191_147 rfl rfl rfl rfl ?_
                                            refine zw_4 zr_191_150 rfl ?_
                                            refine zw_48 (c := 81) (len := 10) zr_191_152 rfl rfl (by omega) (by omega) ?_
                                            intro x61 ex61
                                            have bx61 := ib_81 hIm24 (k := (i29).toNat) (by omega)
                                            rw [← ex61] at bx61
                                            clear ex61
                                            refine zw_push zr_191_153 ?_
                                            refine zw_17 zr_191_154 (by omega) ?_
                                            refine zw_41_4 zr_191_155 ?_ ?_
                                            · intro h62
                                              refine zw_15 (c := 1) (L' := [(2, 69), (0, a0), (0, a1), (0, a2), (0, i29), (0, i36), (0, i31), (0, i37), (0, (i38 + 1)), (0, ((x55 + x59) - i29))]) zr_191_179 rfl (by decide) (by omega) rfl ?_
                                              refine zw_42 zr_191_182 ?_
                                              exact zw_less (L := [(2, 69), (0, a0), (0, a1), (0, a2), (0, i29), (0, i36), (0, i31), (0, i37), (0, (i38 + 1)), (9, 0)]) ⟨Or.inr rfl, Or.inr rfl, Or.inr rfl, Or.inr rfl, Or.inr rfl, Or.inr rfl, Or.inr rfl, Or.inr rfl, Or.inr rfl, Or.inl rfl, trivial⟩ (ihlp90_39 (i36) (i37) ((i38 + 1))  (by omega) (by omega) (by omega) (by omega) (by omega) (by omega)  (by omega))
                                            · intro h63
                                              refine zw_4 zr_191_158 rfl ?_
                                              refine zw_push zr_191_160 ?_
                                              refine zw_41_1 zr_191_161 ?_ ?_
                                              · intro h64
                                                refine zw_4 zr_191_171 rfl ?_
                                                refine zw_10 (L' := [(2, 69), (0, a0), (0, a1), (0, a2), (0, i29), (0, i36), (0, i31), (0, ((x55 + x59) - i29)), (0, i38), (0, ((x55 + x59) - i29))]) zr_191_173 (Nat.le_of_ble_eq_true rfl) rfl ?_
                                                refine zw_4 zr_191_175 rfl ?_
                                                refine zw_10 (L' := [(2, 69), (0, a0), (0, a1), (0, a2), (0, i29), (0, i38), (0, i31), (0, ((x55 + x59) - i29)), (0, i38), (0, ((x55 + x59) - i29))]) zr_191_177 (Nat.le_of_ble_eq_true rfl) rfl ?_
                                                refine zw_15 (c := 1) (L' := [(2, 69), (0, a0), (0, a1), (0, a2), (0, i29), (0, i38), (0, i31), (0, ((x55 + x59) - i29)), (0, (i38 + 1)), (0, ((x55 + x59) - i29))]) zr_191_179 rfl (by decide) (by omega) rfl ?_
                                                refine zw_42 zr_191_182 ?_
                                                exact zw_less (L := [(2, 69), (0, a0), (0, a1), (0, a2), (0, i29), (0, i38), (0, i31), (0, ((x55 + x59) - i29)), (0, (i38 + 1)), (9, 0)]) ⟨Or.inr rfl, Or.inr rfl, Or.inr rfl, Or.inr rfl, Or.inr rfl, Or.inr rfl, Or.inr rfl, Or.inr rfl, Or.inr rfl, Or.inl rfl, trivial⟩ (ihlp90_39 (i38) (((x55 + x59) - i29)) ((i38 + 1))  (by omega) (by omega) (by omega) (by omega) (by omega) (by omega)  (by omega))
                                              · intro h65
                                                refine zw_4 zr_191_164 rfl ?_
                                                refine zw_4 zr_191_166 rfl ?_
                                                refine zw_41_3 zr_191_168 ?_ ?_
                                                · intro h66
                                                  refine zw_15 (c := 1) (L' := [(2, 69), (0, a0), (0, a1), (0, a2), (0, i29), (0, i36), (0, i31), (0, i37), (0, (i38 + 1)), (0, ((x55 + x59) - i29))]) zr_191_179 rfl (by decide) (by omega) rfl ?_
                                                  refine zw_42 zr_191_182 ?_
                                                  exact zw_less (L := [(2, 69), (0, a0), (0, a1), (0, a2), (0, i29), (0, i36), (0, i31), (0, i37), (0, (i38 + 1)), (9, 0)]) ⟨Or.inr rfl, Or.inr rfl, Or.inr rfl, Or.inr rfl, Or.inr rfl, Or.inr rfl, Or.inr rfl, Or.inr rfl, Or.inr rfl, Or.inl rfl, trivial⟩ (ihlp90_39 (i36) (i37) ((i38 + 1))  (by omega) (by omega) (by omega) (by omega) (by omega) (by omega)  (by omega))
                                                · intro h67
                                                  refine zw_4 zr_191_171 rfl ?_
                                                  refine zw_10 (L' := [(2, 69), (0, a0), (0, a1), (0, a2), (0, i29), (0, i36), (0, i31), (0, ((x55 + x59) - i29)), (0, i38), (0, ((x55 + x59) - i29))]) zr_191_173 (Nat.le_of_ble_eq_true rfl) rfl ?_
                                                  refine zw_4 zr_191_175 rfl ?_
                                                  refine zw_10 (L' := [(2, 69), (0, a0), (0, a1), (0, a2), (0, i29), (0, i38), (0, i31), (0, ((x55 + x59) - i29)), (0, i38), (0, ((x55 + x59) - i29))]) zr_191_177 (Nat.le_of_ble_eq_true rfl) rfl ?_
                                                  refine zw_15 (c := 1) (L' := [(2, 69), (0, a0), (0, a1), (0, a2), (0, i29), (0, i38), (0, i31), (0, ((x55 + x59) - i29)), (0, (i38 + 1)), (0, ((x55 + x59) - i29))]) zr_191_179 rfl (by decide) (by omega) rfl ?_
                                                  refine zw_42 zr_191_182 ?_
                                                  exact zw_less (L := [(2, 69), (0, a0), (0, a1), (0, a2), (0, i29), (0, i38), (0, i31), (0, ((x55 + x59) - i29)), (0, (i38 + 1)), (9, 0)]) ⟨Or.inr rfl, Or.inr rfl, Or.inr rfl, Or.inr rfl, Or.inr rfl, Or.inr rfl, Or.inr rfl, Or.inr rfl, Or.inr rfl, Or.inl rfl, trivial⟩ (ihlp90_39 (i38) (((x55 + x59) - i29)) ((i38 + 1))  (by omega) (by omega) (by omega) (by omega) (by omega) (by omega)  (by omega))
                                        · intro h68
                                          refine zw_7 zr_171_10 rfl ?_
                                          refine zw_3 zr_171_11 rfl ?_
                                          refine zw_push zr_171_12 ?_
                                          refine zw_C zr_171_13 (Or.inl rfl) zm_144 rfl rfl ⟨Nat.le_of_ble_eq_true rfl, Nat.le_of_ble_eq_true rfl, Nat.le_of_ble_eq_true rfl, rfl, by decide⟩ (by omega) (P := (fun v m' => zW E (d - 1) 171 16 [(2, 69), (0, i38), (0, i29)] (if v.1 = 9 then [] else v :: []) m' Q1)) ?_ (fun _ _ h => h)
                                          generalize hQ2 : (fun v m' => zW E (d - 1) 171 16 [(2, 69), (0, i38), (0, i29)] (if v.1 = 9 then [] else v :: []) m' Q1) = Q2
                                          show zW E (d - 1 - 1) 144 0 [(2, 69), (0, i38), (0, 2)] [] m24 Q2
                                          refine zw_7 zr_144_0 rfl ?_
                                          refine zw_46r (s := 70) zr_144_1 rfl rfl rfl rfl ?_
                                          refine zw_push zr_144_4 ?_
                                          refine zw_push zr_144_6 ?_
                                          refine zw_3 zr_144_8 rfl ?_
                                          refine zw_18 zr_144_9 (by omega) ?_
                                          refine zw_16 zr_144_10 (by omega) ?_
                                          refine zw_3 zr_144_11 rfl ?_
                                          refine zw_16 zr_144_12 (by omega) ?_
                                          refine zw_48 (c := 70) (len := 826) zr_144_13 rfl rfl (by omega) (by omega) ?_
                                          intro x69 ex69
                                          have bx69 := ib_70_m2 hIm24 (k := (((90 + (6 * i38)) + 2)).toNat) (by omega)
                                          rw [← ex69] at bx69
                                          refine zw_R zr_144_14 (by decide) zm_144 (v := (0, x69)) rfl ?_
                                          rw [← hQ2]
                                          show zW E (d - 1) 171 16 [(2, 69), (0, i38), (0, i29)] [(0, x69)] m24 Q1
                                          refine zw_3 zr_171_16 rfl ?_
                                          refine zw_41_4 zr_171_17 ?_ ?_
                                          · intro h70
                                            refine zw_push zr_171_24 ?_
                                            refine zw_R zr_171_25 (by decide) zm_171 (v := (0, 0)) (zRetB (by omega)) ?_
                                            rw [← hQ1]
                                            show zW E (d) 191 116 [(2, 69), (0, a0), (0, a1), (0, a2), (0, i29), (0, i36), (0, i31), (0, i37), (0, i38), (9, 0)] [(0, 0)] m24 Q
                                            refine zw_40_1 zr_191_116 ?_ ?_
                                            · intro h71
                                              refine zw_15 (c := 1) (L' := [(2, 69), (0, a0), (0, a1), (0, a2), (0, i29), (0, i36), (0, i31), (0, i37), (0, (i38 + 1)), (9, 0)]) zr_191_179 rfl (by decide) (by omega) rfl ?_
                                              refine zw_42 zr_191_182 ?_
                                              exact zw_less (L := [(2, 69), (0, a0), (0, a1), (0, a2), (0, i29), (0, i36), (0, i31), (0, i37), (0, (i38 + 1)), (9, 0)]) ⟨Or.inr rfl, Or.inr rfl, Or.inr rfl, Or.inr rfl, Or.inr rfl, Or.inr rfl, Or.inr rfl, Or.inr rfl, Or.inr rfl, Or.inl rfl, trivial⟩ (ihlp90_39 (i36) (i37) ((i38 + 1))  (by omega) (by omega) (by omega) (by omega) (by omega) (by omega)  (by omega))
                                            · intro h72; omega
                                          · intro h73
                                            refine zw_push zr_171_20 ?_
                                            refine zw_42 zr_171_21 ?_
                                            refine zw_R zr_171_25 (by decide) zm_171 (v := (0, 1)) (zRetB (by omega)) ?_
                                            rw [← hQ1]
                                            show zW E (d) 191 116 [(2, 69), (0, a0), (0, a1), (0, a2), (0, i29), (0, i36), (0, i31), (0, i37), (0, i38), (9, 0)] [(0, 1)] m24 Q
                                            refine zw_40_1 zr_191_116 ?_ ?_
                                            · intro h74; omega
                                            · intro h75
                                              refine zw_7 zr_191_119 rfl ?_
                                              refine zw_4 zr_191_120 rfl ?_
                                              refine zw_push zr_191_122 ?_
                                              refine zw_C zr_191_123 (Or.inl rfl) zm_144 rfl rfl ⟨Nat.le_of_ble_eq_true rfl, Nat.le_of_ble_eq_true rfl, Nat.le_of_ble_eq_true rfl, rfl, by decide⟩ (by omega) (P := (fun v m' => zW E (d) 191 126 [(2, 69), (0, a0), (0, a1), (0, a2), (0, i29), (0, i36), (0, i31), (0, i37), (0, i38), (9, 0)] (if v.1 = 9 then [] else v :: []) m' Q)) ?_ (fun _ _ h => h)
                                              generalize hQ1 : (fun v m' => zW E (d) 191 126 [(2, 69), (0, a0), (0, a1), (0, a2), (0, i29), (0, i36), (0, i31), (0, i37), (0, i38), (9, 0)] (if v.1 = 9 then [] else v :: []) m' Q) = Q1
                                              show zW E (d - 1) 144 0 [(2, 69), (0, i38), (0, 1)] [] m24 Q1
                                              refine zw_7 zr_144_0 rfl ?_
                                              refine zw_46r (s := 70) zr_144_1 rfl rfl rfl rfl ?_
                                              refine zw_push zr_144_4 ?_
                                              refine zw_push zr_144_6 ?_
                                              refine zw_3 zr_144_8 rfl ?_
                                              refine zw_18 zr_144_9 (by omega) ?_
                                              refine zw_16 zr_144_10 (by omega) ?_
                                              refine zw_3 zr_144_11 rfl ?_
                                              refine zw_16 zr_144_12 (by omega) ?_
                                              refine zw_48k (c := 70) (len := 826) zr_144_13 rfl rfl (by omega) (by omega) rfl ex55.symm ?_
                                              refine zw_R zr_144_14 (by decide) zm_144 (v := (0, x55)) rfl ?_
                                              rw [← hQ1]
                                              show zW E (d) 191 126 [(2, 69), (0, a0), (0, a1), (0, a2), (0, i29), (0, i36), (0, i31), (0, i37), (0, i38), (9, 0)] [(0, x55)] m24 Q
                                              refine zw_7 zr_191_126 rfl ?_
                                              refine zw_4 zr_191_127 rfl ?_
                                              refine zw_push zr_191_129 ?_
                                              refine zw_C zr_191_130 (Or.inl rfl) zm_144 rfl rfl ⟨Nat.le_of_ble_eq_true rfl, Nat.le_of_ble_eq_true rfl, Nat.le_of_ble_eq_true rfl, rfl, by decide⟩ (by omega) (P := (fun v m' => zW E (d) 191 133 [(2, 69), (0, a0), (0, a1), (0, a2), (0, i29), (0, i36), (0, i31), (0, i37), (0, i38), (9, 0)] (if v.1 = 9 then [(0, x55)] else v :: [(0, x55)]) m' Q)) ?_ (fun _ _ h => h)
                                              generalize hQ1 : (fun v m' => zW E (d) 191 133 [(2, 69), (0, a0), (0, a1), (0, a2), (0, i29), (0, i36), (0, i31), (0, i37), (0, i38), (9, 0)] (if v.1 = 9 then [(0, x55)] else v :: [(0, x55)]) m' Q) = Q1
                                              show zW E (d - 1) 144 0 [(2, 69), (0, i38), (0, 2)] [] m24 Q1
                                              refine zw_7 zr_144_0 rfl ?_
                                              refine zw_46r (s := 70) zr_144_1 rfl rfl rfl rfl ?_
                                              refine zw_push zr_144_4 ?_
                                              refine zw_push zr_144_6 ?_
                                              refine zw_3 zr_144_8 rfl ?_
                                              refine zw_18 zr_144_9 (by omega) ?_
                                              refine zw_16 zr_144_10 (by omega) ?_
                                              refine zw_3 zr_144_11 rfl ?_
                                              refine zw_16 zr_144_12 (by omega) ?_
                                              refine zw_48k (c := 70) (len := 826) zr_144_13 rfl rfl (by omega) (by omega) rfl ex69.symm ?_
                                              refine zw_R zr_144_14 (by decide) zm_144 (v := (0, x69)) rfl ?_
                                              rw [← hQ1]
                                              show zW E (d) 191 133 [(2, 69), (0, a0), (0, a1), (0, a2), (0, i29), (0, i36), (0, i31), (0, i37), (0, i38), (9, 0)] [(0, x69), (0, x55)] m24 Q
                                              refine zw_16 zr_191_133 (by omega) ?_
                                              refine zw_4 zr_191_134 rfl ?_
                                              refine zw_17 zr_191_136 (by omega) ?_
                                              refine zw_10 (L' := [(2, 69), (0, a0), (0, a1), (0, a2), (0, i29), (0, i36), (0, i31), (0, i37), (0, i38), (0, ((x55 + x69) - i29))]) zr_191_137 (Nat.le_of_ble_eq_true rfl) rfl ?_
                                              refine zw_7 zr_191_139 rfl ?_
                                              refine zw_46r (s := 81) zr_191_140 rfl rfl rfl rfl ?_
                                              refine zw_4 zr_191_143 rfl ?_
                                              refine zw_48 (c := 81) (len := 10) zr_191_145 rfl rfl (by omega) (by omega) ?_
                                              intro x76 ex76
                                              have bx76 := ib_81 hIm24 (k := (((x55 + x69) - i29)).toNat) (by omega)
                                              rw [← ex76] at bx76
                                              clear ex76
                                              refine zw_7 zr_191_146 rfl ?_
                                              refine zw_46r (s := 81) zr_191_147 rfl rfl rfl rfl ?_
                                              refine zw_4 zr_191_150 rfl ?_
                                              refine zw_48 (c := 81) (len := 10) zr_191_152 rfl rfl (by omega) (by omega) ?_
                                              intro x77 ex77
                                              have bx77 := ib_81 hIm24 (k := (i29).toNat) (by omega)
                                              rw [← ex77] at bx77
                                              clear ex77
                                              refine zw_push zr_191_153 ?_
                                              refine zw_17 zr_191_154 (by omega) ?_
                                              refine zw_41_4 zr_191_155 ?_ ?_
                                              · intro h78
                                                refine zw_15 (c := 1) (L' := [(2, 69), (0, a0), (0, a1), (0, a2), (0, i29), (0, i36), (0, i31), (0, i37), (0, (i38 + 1)), (0, ((x55 + x69) - i29))]) zr_191_179 rfl (by decide) (by omega) rfl ?_
                                                refine zw_42 zr_191_182 ?_
                                                exact zw_less (L := [(2, 69), (0, a0), (0, a1), (0, a2), (0, i29), (0, i36), (0, i31), (0, i37), (0, (i38 + 1)), (9, 0)]) ⟨Or.inr rfl, Or.inr rfl, Or.inr rfl, Or.inr rfl, Or.inr rfl, Or.inr rfl, Or.inr rfl, Or.inr rfl, Or.inr rfl, Or.inl rfl, trivial⟩ (ihlp90_39 (i36) (i37) ((i38 + 1))  (by omega) (by omega) (by omega) (by omega) (by omega) (by omega)  (by omega))
                                              · intro h79
                                                refine zw_4 zr_191_158 rfl ?_
                                                refine zw_push zr_191_160 ?_
                                                refine zw_41_1 zr_191_161 ?_ ?_
                                                · intro h80
                                                  refine zw_4 zr_191_171 rfl ?_
                                                  refine zw_10 (L' := [(2, 69), (0, a0), (0, a1), (0, a2), (0, i29), (0, i36), (0, i31), (0, ((x55 + x69) - i29)), (0, i38), (0, ((x55 + x69) - i29))]) zr_191_173 (Nat.le_of_ble_eq_true rfl) rfl ?_
                                                  refine zw_4 zr_191_175 rfl ?_
                                                  refine zw_10 (L' := [(2, 69), (0, a0), (0, a1), (0, a2), (0, i29), (0, i38), (0, i31), (0, ((x55 + x69) - i29)), (0, i38), (0, ((x55 + x69) - i29))]) zr_191_177 (Nat.le_of_ble_eq_true rfl) rfl ?_
                                                  refine zw_15 (c := 1) (L' := [(2, 69), (0, a0), (0, a1), (0, a2), (0, i29), (0, i38), (0, i31), (0, ((x55 + x69) - i29)), (0, (i38 + 1)), (0, ((x55 + x69) - i29))]) zr_191_179 rfl (by decide) (by omega) rfl ?_
                                                  refine zw_42 zr_191_182 ?_
                                                  exact zw_less (L := [(2, 69), (0, a0), (0, a1), (0, a2), (0, i29), (0, i38), (0, i31), (0, ((x55 + x69) - i29)), (0, (i38 + 1)), (9, 0)]) ⟨Or.inr rfl, Or.inr rfl, Or.inr rfl, Or.inr rfl, Or.inr rfl, Or.inr rfl, Or.inr rfl, Or.inr rfl, Or.inr rfl, Or.inl rfl, trivial⟩ (ihlp90_39 (i38) (((x55 + x69) - i29)) ((i38 + 1))  (by omega) (by omega) (by omega) (by omega) (by omega) (by omega)  (by omega))
                                                · intro h81
                                                  refine zw_4 zr_191_164 rfl ?_
                                                  refine zw_4 zr_191_166 rfl ?_
                                                  refine zw_41_3 zr_191_168 ?_ ?_
                                                  · intro h82
                                                    refine zw_15 (c := 1) (L' := [(2, 69), (0, a0), (0, a1), (0, a2), (0, i29), (0, i36), (0, i31), (0, i37), (0, (i38 + 1)), (0, ((x55 + x69) - i29))]) zr_191_179 rfl (by decide) (by omega) rfl ?_
                                                    refine zw_42 zr_191_182 ?_
                                                    exact zw_less (L := [(2, 69), (0, a0), (0, a1), (0, a2), (0, i29), (0, i36), (0, i31), (0, i37), (0, (i38 + 1)), (9, 0)]) ⟨Or.inr rfl, Or.inr rfl, Or.inr rfl, Or.inr rfl, Or.inr rfl, Or.inr rfl, Or.inr rfl, Or.inr rfl, Or.inr rfl, Or.inl rfl, trivial⟩ (ihlp90_39 (i36) (i37) ((i38 + 1))  (by omega) (by omega) (by omega) (by omega) (by omega) (by omega)  (by omega))
                                                  · intro h83
                                                    refine zw_4 zr_191_171 rfl ?_
                                                    refine zw_10 (L' := [(2, 69), (0, a0), (0, a1), (0, a2), (0, i29), (0, i36), (0, i31), (0, ((x55 + x69) - i29)), (0, i38), (0, ((x55 + x69) - i29))]) zr_191_173 (Nat.le_of_ble_eq_true rfl) rfl ?_
                                                    refine zw_4 zr_191_175 rfl ?_
                                                    refine zw_10 (L' := [(2, 69), (0, a0), (0, a1), (0, a2), (0, i29), (0, i38), (0, i31), (0, ((x55 + x69) - i29)), (0, i38), (0, ((x55 + x69) - i29))]) zr_191_177 (Nat.le_of_ble_eq_true rfl) rfl ?_
                                                    refine zw_15 (c := 1) (L' := [(2, 69), (0, a0), (0, a1), (0, a2), (0, i29), (0, i38), (0, i31), (0, ((x55 + x69) - i29)), (0, (i38 + 1)), (0, ((x55 + x69) - i29))]) zr_191_179 rfl (by decide) (by omega) rfl ?_
                                                    refine zw_42 zr_191_182 ?_
                                                    exact zw_less (L := [(2, 69), (0, a0), (0, a1), (0, a2), (0, i29), (0, i38), (0, i31), (0, ((x55 + x69) - i29)), (0, (i38 + 1)), (9, 0)]) ⟨Or.inr rfl, Or.inr rfl, Or.inr rfl, Or.inr rfl, Or.inr rfl, Or.inr rfl, Or.inr rfl, Or.inr rfl, Or.inr rfl, Or.inl rfl, trivial⟩ (ihlp90_39 (i38) (((x55 + x69) - i29)) ((i38 + 1))  (by omega) (by omega) (by omega) (by omega) (by omega) (by omega)  (by omega))
                            exact lp90_39 _ (i30) ((-1)) (0)  (by omega) (by omega) (by omega) (by omega) (by omega) (by omega)  (Nat.lt_succ_self _)
                      exact lp78_32 _ (a0) ((-1)) (0)  (by omega) (by omega) (by omega) (by omega) (by omega) (by omega)  (Nat.lt_succ_self _)
                    · intro h84
                      refine zw_push zr_191_66 ?_
                      refine zw_R zr_191_68 (by decide) zm_191 (v := (0, (-5))) rfl ?_
                      rw [← hQ]; exact ⟨_, rfl, by omega, by omega, hIm24, hFm24⟩
                  · intro h85
                    refine zw_7 zr_191_49 rfl ?_
                    refine zw_46r (s := 81) zr_191_50 rfl rfl rfl rfl ?_
                    refine zw_3 zr_191_53 rfl ?_
                    refine zw_48k (c := 81) (len := 10) zr_191_54 rfl rfl (by omega) (by omega) rfl ex25.symm ?_
                    refine zw_R zr_191_55 (by decide) zm_191 (v := (0, x25)) rfl ?_
                    rw [← hQ]; exact ⟨_, rfl, by omega, by omega, hIm24, hFm24⟩
                · intro h86
                  refine zw_push zr_191_41 ?_
                  refine zw_R zr_191_43 (by decide) zm_191 (v := (0, (-5))) rfl ?_
                  rw [← hQ]; exact ⟨_, rfl, by omega, by omega, hIm24, hFm24⟩
              · intro h87
                refine zw_push zr_191_21 ?_
                refine zw_R zr_191_23 (by decide) zm_191 (v := (0, (-10))) rfl ?_
                rw [← hQ]; exact ⟨_, rfl, by omega, by omega, hI0, hF0⟩

abbrev W_76 : List (Nat × Nat) := [(61, 1000), (62, 1000)]
set_option maxHeartbeats 8000000 in
theorem th_76 {E : zE} {d : Nat} {m0 : zM} {g0 : Int} {g1 : Int} {g2 : Int} {g3 : Int} {F6 : Nat → Int} {F7 : Nat → Int} {F62 : Nat → Int} (hd : 3 ≤ d) (hI0 : zInv m0) (hg0 : m0 1 0 = g0) (hg1 : m0 1 1 = g1) (hg2 : m0 1 2 = g2) (hg3 : m0 1 3 = g3) (hG6 : m0 6 = F6) (hG7 : m0 7 = F7) (hG62 : m0 62 = F62) (hp0 : zPl F6 F7 g1 g0) : zC E d 76 [(2, 60)] m0 (fun v m' => ∃ r : Int, v = (1, r) ∧ 0 ≤ r ∧ r ≤ 1152921504606846975 ∧ zInv m' ∧ zFr W_76 m0 m' ∧ (zBs r (brs (fun o => edp F6 F7 g2 g3 g1 o g0) F6 F7 (zbt g2) (zbt g3)) g1)) := by
  have hF0 : zFr W_76 m0 m0 := zFr.rfl
  have bg0 := ib_1_0 hI0
  rw [hg0] at bg0
  have bg1 := ib_1_1 hI0
  rw [hg1] at bg1
  have bg2 := ib_1_2 hI0
  rw [hg2] at bg2
  have bg3 := ib_1_3 hI0
  rw [hg3] at bg3
  generalize hQ : (fun (v : zV) (m' : zM) => ∃ r : Int, v = (1, r) ∧ 0 ≤ r ∧ r ≤ 1152921504606846975 ∧ zInv m' ∧ zFr W_76 m0 m' ∧ (zBs r (brs (fun o => edp F6 F7 g2 g3 g1 o g0) F6 F7 (zbt g2) (zbt g3)) g1)) = Q
  show zW E d 76 0 [(2, 60), (9, 0), (9, 0), (9, 0), (9, 0), (9, 0), (9, 0), (9, 0)] [] m0 Q
  refine zw_7 zr_76_0 rfl ?_
  refine zw_46r (s := 1) zr_76_1 rfl rfl rfl rfl ?_
  refine zw_C zr_76_4 (Or.inl rfl) zm_53 rfl rfl ⟨Nat.le_of_ble_eq_true rfl, Nat.le_of_ble_eq_true rfl, Nat.le_of_ble_eq_true rfl, rfl, by decide⟩ (by omega) (th_53 (d := d - 1) (by omega) hI0  (g0 := g1) (g1 := g2) (g2 := g3)   hg1 hg2 hg3   ) ?_
  rintro _ _ ⟨r1, rfl, hr1a, hr1b, rfl, po0_r1⟩
  show zW E (d) 76 7 [(2, 60), (9, 0), (9, 0), (9, 0), (9, 0), (9, 0), (9, 0), (9, 0)] [(1, r1)] m0 Q
  refine zw_13 (L' := [(2, 60), (1, r1), (9, 0), (9, 0), (9, 0), (9, 0), (9, 0), (9, 0)]) zr_76_7 (Nat.le_of_ble_eq_true rfl) rfl ?_
  refine zw_push zr_76_8 ?_
  refine zw_13 (L' := [(2, 60), (1, r1), (9, 0), (1, 0), (9, 0), (9, 0), (9, 0), (9, 0)]) zr_76_9 (Nat.le_of_ble_eq_true rfl) rfl ?_
  refine zw_push zr_76_10 ?_
  refine zw_10 (L' := [(2, 60), (1, r1), (9, 0), (1, 0), (9, 0), (0, 0), (9, 0), (9, 0)]) zr_76_11 (Nat.le_of_ble_eq_true rfl) rfl ?_
  have lp13_6 : ∀ (nlp13_6 : Nat) (i2 i3 : Int) (f5 : Nat → Int) (m4 : zM), zInv m4 → zFr W_76 m0 m4 → m4 1 0 = g0 → m4 1 1 = g1 → m4 1 2 = g2 → m4 1 3 = g3 → m4 6 = F6 → m4 7 = F7 → m4 62 = f5 → 0 ≤ i2 → i2 ≤ 1152921504606846975 → 0 ≤ i3 → i3 ≤ 60 → (zBs i2 (brs (fun o => edp F6 F7 g2 g3 g1 o g0) F6 F7 (zbt g2) (zbt g3)) i3) → (i3 ≤ g1) → (60 - i3).toNat < nlp13_6 → zW E (d) 76 13 [(2, 60), (1, r1), (9, 0), (1, i2), (9, 0), (0, i3), (9, 0), (9, 0)] [] m4 Q := by
    intro nlp13_6
    induction nlp13_6 with
    | zero =>
      intros
      exact absurd (by assumption : _ < 0) (Nat.not_lt_zero _)
    | succ nlp13_6 ihlp13_6 =>
      intro i2 i3 f5 m4 hIm4 hFm4 km4_1_0 km4_1_1 km4_1_2 km4_1_3 fm4_6 fm4_7 fm4_62 li2 ui2 li3 ui3 hv0lp13_6 hv1lp13_6 hmlp13_6
      refine zw_4 zr_76_13 rfl ?_
      refine zw_7 zr_76_15 rfl ?_
      refine zw_46r (s := 1) zr_76_16 rfl rfl rfl rfl ?_
      refine zw_46i zr_76_19 km4_1_1 rfl rfl rfl ?_
      refine zw_41_3 zr_76_22 ?_ ?_
      · intro h8
        refine zw_5 zr_76_100 rfl ?_
        refine zw_R zr_76_101 (by decide) zm_76 (v := (1, i2)) rfl ?_
        rw [← hQ]; exact ⟨_, rfl, by omega, by omega, hIm4, hFm4, by have z := hv0lp13_6; rw [show i3 = g1 by omega] at z; exact z⟩
      · intro h10
        refine zw_push zr_76_25 ?_
        refine zw_4 zr_76_26 rfl ?_
        refine zw_33q zr_76_28 (by omega) ?_
        intro x11 ex11 hx11a hx11b
        refine zw_14 (L' := [(2, 60), (1, r1), (9, 0), (1, i2), (9, 0), (0, i3), (1, x11), (9, 0)]) zr_76_29 (Nat.le_of_ble_eq_true rfl) rfl ?_
        refine zw_5 zr_76_31 rfl ?_
        refine zw_6 zr_76_32 rfl ?_
        refine zw_30p (s := i3) zr_76_34 ex11 (by omega) (by omega) ?_
        intro x12 hx12a
        refine zw_push zr_76_35 ?_
        refine zw_39_1 zr_76_36 zr_76_37 ?_ ?_
        · intro h13
          refine zw_15 (c := 1) (L' := [(2, 60), (1, r1), (9, 0), (1, i2), (9, 0), (0, (i3 + 1)), (1, x11), (9, 0)]) zr_76_94 rfl (by decide) (by omega) rfl ?_
          refine zw_42 zr_76_97 ?_
          exact zw_less (L := [(2, 60), (1, r1), (9, 0), (1, i2), (9, 0), (0, (i3 + 1)), (9, 0), (9, 0)]) ⟨Or.inr rfl, Or.inr rfl, Or.inl rfl, Or.inr rfl, Or.inl rfl, Or.inr rfl, Or.inl rfl, Or.inl rfl, trivial⟩ (ihlp13_6 (i2) ((i3 + 1)) (f5) m4 hIm4 hFm4  km4_1_0 km4_1_1 km4_1_2 km4_1_3 fm4_6 fm4_7 fm4_62 (by omega) (by omega) (by omega) (by omega) (by first | exact zBs_no hv0lp13_6 (by omega) (brs_no (by assumption) (by omega) (by omega)) | exact zBs_put hv0lp13_6 ei2 (by omega) (brs_t (by assumption) (by omega)) | exact zBs_no hv0lp13_6 (by omega) (brs_f (by assumption) (by omega))) (by omega) (by omega))
        · intro h15
          refine zw_7 zr_76_40 rfl ?_
          refine zw_5 zr_76_41 rfl ?_
          refine zw_6 zr_76_42 rfl ?_
          refine zw_push zr_76_44 ?_
          refine zw_32c zr_76_47 (by omega) ?_
          refine zw_30n (y := x11) zr_76_48 (by omega) (by omega) ?_
          intro x16 ex16 hx16a hx16b
          refine zw_C zr_76_49 (Or.inl rfl) zm_66 rfl rfl ⟨Nat.le_of_ble_eq_true rfl, Nat.le_of_ble_eq_true rfl, Nat.le_of_ble_eq_true rfl, rfl, by decide⟩ (by omega) (th_66 (d := d - 1) (by omega) hIm4 (a0 := x16) (g0 := g1)  (F61 := m4 61) (F6 := F6) (F7 := F7) km4_1_1 rfl fm4_6 fm4_7 (by omega) ) ?_
          rintro _ m17 ⟨rfl, hIm17, gm17, po0_m17⟩
          have hFm17 : zFr W_76 m0 m17 := hFm4.trans gm17 rfl
          have km17_1_0 : m17 1 0 = g0 := (gm17 1 0 rfl).trans km4_1_0
          have km17_1_1 : m17 1 1 = g1 := (gm17 1 1 rfl).trans km4_1_1
          have km17_1_2 : m17 1 2 = g2 := (gm17 1 2 rfl).trans km4_1_2
          have km17_1_3 : m17 1 3 = g3 := (gm17 1 3 rfl).trans km4_1_3
          have fm17_6 : m17 6 = F6 := (funext fun k => gm17 6 k rfl).trans fm4_6
          have fm17_7 : m17 7 = F7 := (funext fun k => gm17 7 k rfl).trans fm4_7
          have fm17_62 : m17 62 = f5 := (funext fun k => gm17 62 k rfl).trans fm4_62
          show zW E (d) 76 52 [(2, 60), (1, r1), (9, 0), (1, i2), (9, 0), (0, i3), (1, x11), (9, 0)] [] m17 Q
          refine zw_7 zr_76_52 rfl ?_
          refine zw_7 zr_76_53 rfl ?_
          refine zw_46r (s := 1) zr_76_54 rfl rfl rfl rfl ?_
          refine zw_46r (s := 6) zr_76_57 rfl rfl rfl rfl ?_
          refine zw_4 zr_76_60 rfl ?_
          refine zw_48 (c := 6) (len := 60) zr_76_62 rfl rfl (by omega) (by omega) ?_
          intro x18 ex18
          have bx18 := ib_6 hIm17 (k := (i3).toNat) (by omega)
          rw [← ex18] at bx18
          have qx18 : x18 = F6 (i3).toNat := by rw [← fm17_6]; exact ex18
          clear ex18
          refine zw_C zr_76_63 (Or.inl rfl) zm_67 rfl rfl ⟨Nat.le_of_ble_eq_true rfl, Nat.le_of_ble_eq_true rfl, Nat.le_of_ble_eq_true rfl, rfl, by decide⟩ (by omega) (th_67 (d := d - 1) (by omega) hIm17 (a0 := x18) (g0 := g0)  (F61 := m17 61) (F62 := f5) km17_1_0 rfl fm17_62 (by omega) ) ?_
          rintro _ m19 ⟨rfl, hIm19, gm19, po0_m19⟩
          have hFm19 : zFr W_76 m0 m19 := hFm17.trans gm19 rfl
          have km19_1_0 : m19 1 0 = g0 := (gm19 1 0 rfl).trans km17_1_0
          have km19_1_1 : m19 1 1 = g1 := (gm19 1 1 rfl).trans km17_1_1
          have km19_1_2 : m19 1 2 = g2 := (gm19 1 2 rfl).trans km17_1_2
          have km19_1_3 : m19 1 3 = g3 := (gm19 1 3 rfl).trans km17_1_3
          have fm19_6 : m19 6 = F6 := (funext fun k => gm19 6 k rfl).trans fm17_6
          have fm19_7 : m19 7 = F7 := (funext fun k => gm19 7 k rfl).trans fm17_7
          obtain ⟨f20, fm19_62⟩ : ∃ f, m19 62 = f := ⟨_, rfl⟩
          try rw [fm19_62] at po0_m19
          show zW E (d) 76 66 [(2, 60), (1, r1), (9, 0), (1, i2), (9, 0), (0, i3), (1, x11), (9, 0)] [] m19 Q
          refine zw_5 zr_76_66 rfl ?_
          refine zw_7 zr_76_67 rfl ?_
          refine zw_46r (s := 62) zr_76_68 rfl rfl rfl rfl ?_
          refine zw_7 zr_76_71 rfl ?_
          refine zw_46r (s := 1) zr_76_72 rfl rfl rfl rfl ?_
          refine zw_46r (s := 7) zr_76_75 rfl rfl rfl rfl ?_
          refine zw_4 zr_76_78 rfl ?_
          refine zw_48 (c := 7) (len := 60) zr_76_80 rfl rfl (by omega) (by omega) ?_
          intro x21 ex21
          have bx21 := ib_7 hIm19 (k := (i3).toNat) (by omega)
          rw [← ex21] at bx21
          have qx21 : x21 = F7 (i3).toNat := by rw [← fm19_7]; exact ex21
          clear ex21
          refine zw_48 (c := 62) (len := 10) zr_76_81 rfl rfl (by omega) (by omega) ?_
          intro x22 ex22
          have bx22 := hIm19.ra (c := 62) (len := 10) (k := (x21).toNat) rfl (by omega)
          rw [← ex22] at bx22
          have qx22 : x22 = f20 (x21).toNat := by rw [← fm19_62]; exact ex22
          clear ex22
          refine zw_push zr_76_82 ?_
          have z23 := hp0 (i3).toNat (by omega) (by omega)
          have z24 := brs_c po0_m17 po0_m19 (by assumption : zSy _ g2 g3 g1) (by assumption) ex11 (by omega) (by omega) (by omega) (by omega) qx22 (by omega)
          refine zw_41_4 zr_76_83 ?_ ?_
          · intro h25
            refine zw_push zr_76_91 ?_
            refine zw_31z zr_76_92 (by omega) ?_
            refine zw_13 (L' := [(2, 60), (1, r1), (9, 0), (1, i2), (9, 0), (0, i3), (1, x11), (9, 0)]) zr_76_93 (Nat.le_of_ble_eq_true rfl) rfl ?_
            refine zw_15 (c := 1) (L' := [(2, 60), (1, r1), (9, 0), (1, i2), (9, 0), (0, (i3 + 1)), (1, x11), (9, 0)]) zr_76_94 rfl (by decide) (by omega) rfl ?_
            refine zw_42 zr_76_97 ?_
            exact zw_less (L := [(2, 60), (1, r1), (9, 0), (1, i2), (9, 0), (0, (i3 + 1)), (9, 0), (9, 0)]) ⟨Or.inr rfl, Or.inr rfl, Or.inl rfl, Or.inr rfl, Or.inl rfl, Or.inr rfl, Or.inl rfl, Or.inl rfl, trivial⟩ (ihlp13_6 (i2) ((i3 + 1)) (f20) m19 hIm19 hFm19  km19_1_0 km19_1_1 km19_1_2 km19_1_3 fm19_6 fm19_7 fm19_62 (by omega) (by omega) (by omega) (by omega) (by first | exact zBs_no hv0lp13_6 (by omega) (brs_no (by assumption) (by omega) (by omega)) | exact zBs_put hv0lp13_6 ei2 (by omega) (brs_t (by assumption) (by omega)) | exact zBs_no hv0lp13_6 (by omega) (brs_f (by assumption) (by omega))) (by omega) (by omega))
          · intro h27
            refine zw_6 zr_76_86 rfl ?_
            refine zw_42 zr_76_88 ?_
            refine zw_31p (s := i3) zr_76_92 ex11 (by omega) (by omega) ?_
            intro x28 ex28 hx28a hx28b
            refine zw_13 (L' := [(2, 60), (1, r1), (9, 0), (1, x28), (9, 0), (0, i3), (1, x11), (9, 0)]) zr_76_93 (Nat.le_of_ble_eq_true rfl) rfl ?_
            refine zw_15 (c := 1) (L' := [(2, 60), (1, r1), (9, 0), (1, x28), (9, 0), (0, (i3 + 1)), (1, x11), (9, 0)]) zr_76_94 rfl (by decide) (by omega) rfl ?_
            refine zw_42 zr_76_97 ?_
            exact zw_less (L := [(2, 60), (1, r1), (9, 0), (1, x28), (9, 0), (0, (i3 + 1)), (9, 0), (9, 0)]) ⟨Or.inr rfl, Or.inr rfl, Or.inl rfl, Or.inr rfl, Or.inl rfl, Or.inr rfl, Or.inl rfl, Or.inl rfl, trivial⟩ (ihlp13_6 (x28) ((i3 + 1)) (f20) m19 hIm19 hFm19  km19_1_0 km19_1_1 km19_1_2 km19_1_3 fm19_6 fm19_7 fm19_62 (by omega) (by omega) (by omega) (by omega) (by first | exact zBs_no hv0lp13_6 (by omega) (brs_no (by assumption) (by omega) (by omega)) | exact zBs_put hv0lp13_6 ex28 (by omega) (brs_t (by assumption) (by omega)) | exact zBs_no hv0lp13_6 (by omega) (brs_f (by assumption) (by omega))) (by omega) (by omega))
  exact lp13_6 _ (0) (0) (F62) m0 hI0 hF0  hg0 hg1 hg2 hg3 hG6 hG7 hG62 (by omega) (by omega) (by omega) (by omega) (zBs_0) (by omega) (Nat.lt_succ_self _)

abbrev W_122 : List (Nat × Nat) := [(61, 1000), (62, 1000)]
set_option maxHeartbeats 8000000 in
theorem th_122 {E : zE} {d : Nat} {m0 : zM} {g0 : Int} {g1 : Int} {g2 : Int} {g3 : Int} {F6 : Nat → Int} {F7 : Nat → Int} (hd : 4 ≤ d) (hI0 : zInv m0) (hg0 : m0 1 0 = g0) (hg1 : m0 1 1 = g1) (hg2 : m0 1 2 = g2) (hg3 : m0 1 3 = g3) (hG6 : m0 6 = F6) (hG7 : m0 7 = F7) (hp0 : zPl F6 F7 g1 g0) : zC E d 122 [(2, 0)] m0 (fun v m' => ∃ r : Int, v = (1, r) ∧ 0 ≤ r ∧ r ≤ 1152921504606846975 ∧ zInv m' ∧ zFr W_122 m0 m' ∧ (0 ≤ r) ∧ (zBs r (brs (fun o => edp F6 F7 g2 g3 g1 o g0) F6 F7 (zbt g2) (zbt g3)) g1)) := by
  have hF0 : zFr W_122 m0 m0 := zFr.rfl
  have bg0 := ib_1_0 hI0
  rw [hg0] at bg0
  have bg1 := ib_1_1 hI0
  rw [hg1] at bg1
  have bg2 := ib_1_2 hI0
  rw [hg2] at bg2
  have bg3 := ib_1_3 hI0
  rw [hg3] at bg3
  generalize hQ : (fun (v : zV) (m' : zM) => ∃ r : Int, v = (1, r) ∧ 0 ≤ r ∧ r ≤ 1152921504606846975 ∧ zInv m' ∧ zFr W_122 m0 m' ∧ (0 ≤ r) ∧ (zBs r (brs (fun o => edp F6 F7 g2 g3 g1 o g0) F6 F7 (zbt g2) (zbt g3)) g1)) = Q
  show zW E d 122 0 [(2, 0)] [] m0 Q
  refine zw_7 zr_122_0 rfl ?_
  refine zw_46r (s := 60) zr_122_1 rfl rfl rfl rfl ?_
  refine zw_C zr_122_4 (Or.inl rfl) zm_76 rfl rfl ⟨Nat.le_of_ble_eq_true rfl, Nat.le_of_ble_eq_true rfl, Nat.le_of_ble_eq_true rfl, rfl, by decide⟩ (by omega) (th_76 (d := d - 1) (by omega) hI0  (g0 := g0) (g1 := g1) (g2 := g2) (g3 := g3)  (F6 := F6) (F7 := F7) (F62 := m0 62) hg0 hg1 hg2 hg3 hG6 hG7 rfl  (hp0)) ?_
  rintro _ m2 ⟨r3, rfl, hr3a, hr3b, hIm2, gm2, po0_r3⟩
  have hFm2 : zFr W_122 m0 m2 := hF0.trans gm2 rfl
  have km2_1_0 : m2 1 0 = g0 := (gm2 1 0 rfl).trans hg0
  have km2_1_1 : m2 1 1 = g1 := (gm2 1 1 rfl).trans hg1
  have km2_1_2 : m2 1 2 = g2 := (gm2 1 2 rfl).trans hg2
  have km2_1_3 : m2 1 3 = g3 := (gm2 1 3 rfl).trans hg3
  have fm2_6 : m2 6 = F6 := (funext fun k => gm2 6 k rfl).trans hG6
  have fm2_7 : m2 7 = F7 := (funext fun k => gm2 7 k rfl).trans hG7
  show zW E (d) 122 7 [(2, 0)] [(1, r3)] m2 Q
  refine zw_R zr_122_7 (by decide) zm_122 (v := (1, r3)) rfl ?_
  rw [← hQ]; exact ⟨_, rfl, by omega, by omega, hIm2, hFm2, by omega, po0_r3⟩

abbrev W_192 : List (Nat × Nat) := [(81, 1000)]
set_option maxHeartbeats 8000000 in
theorem th_192 {E : zE} {d : Nat} {m0 : zM} {g0 : Int} {F70 : Nat → Int} {F81 : Nat → Int} (hd : 4 ≤ d) (hI0 : zInv m0) (hg0 : m0 70 823 = g0) (hG70 : m0 70 = F70) (hG81 : m0 81 = F81) : zC E d 192 [(2, 69)] m0 (fun v m' => ∃ r : Int, v = (1, r) ∧ 0 ≤ r ∧ r ≤ 1152921504606846975 ∧ zInv m' ∧ zFr W_192 m0 m' ∧ (0 ≤ r) ∧ (zBs r (brs (fun o => edr F70 g0 o) (fun i => F70 (91 + 6 * i)) (fun i => F70 (92 + 6 * i)) (fun i => F70 (94 + 6 * i)) (fun i => F70 (95 + 6 * i))) g0)) := by
  have hF0 : zFr W_192 m0 m0 := zFr.rfl
  have bg0 : 0 ≤ m0 70 823 ∧ m0 70 823 ≤ 60 := ib_70_meetings hI0 (by omega)
  rw [hg0] at bg0
  generalize hQ : (fun (v : zV) (m' : zM) => ∃ r : Int, v = (1, r) ∧ 0 ≤ r ∧ r ≤ 1152921504606846975 ∧ zInv m' ∧ zFr W_192 m0 m' ∧ (0 ≤ r) ∧ (zBs r (brs (fun o => edr F70 g0 o) (fun i => F70 (91 + 6 * i)) (fun i => F70 (92 + 6 * i)) (fun i => F70 (94 + 6 * i)) (fun i => F70 (95 + 6 * i))) g0)) = Q
  show zW E d 192 0 [(2, 69), (9, 0), (9, 0), (9, 0)] [] m0 Q
  refine zw_push zr_192_0 ?_
  refine zw_13 (L' := [(2, 69), (1, 0), (9, 0), (9, 0)]) zr_192_1 (Nat.le_of_ble_eq_true rfl) rfl ?_
  refine zw_push zr_192_2 ?_
  refine zw_9 (L' := [(2, 69), (1, 0), (9, 0), (0, 0)]) zr_192_3 (Nat.le_of_ble_eq_true rfl) rfl ?_
  have lp4_5 : ∀ (nlp4_5 : Nat) (i1 i2 : Int) (f4 : Nat → Int) (m3 : zM), zInv m3 → zFr W_192 m0 m3 → m3 70 823 = g0 → m3 70 = F70 → m3 81 = f4 → 0 ≤ i1 → i1 ≤ 1152921504606846975 → 0 ≤ i2 → i2 ≤ 60 → (zBs i1 (brs (fun o => edr F70 g0 o) (fun i => F70 (91 + 6 * i)) (fun i => F70 (92 + 6 * i)) (fun i => F70 (94 + 6 * i)) (fun i => F70 (95 + 6 * i))) i2) → (i2 ≤ g0) → (60 - i2).toNat < nlp4_5 → zW E (d) 192 4 [(2, 69), (1, i1), (9, 0), (0, i2)] [] m3 Q := by
    intro nlp4_5
    induction nlp4_5 with
    | zero =>
      intros
      exact absurd (by assumption : _ < 0) (Nat.not_lt_zero _)
    | succ nlp4_5 ihlp4_5 =>
      intro i1 i2 f4 m3 hIm3 hFm3 km3_70_823 fm3_70 fm3_81 li1 ui1 li2 ui2 hv0lp4_5 hv1lp4_5 hmlp4_5
      have z7 : F70 ((90 + (6 * i2)) + 1).toNat = F70 (91 + 6 * (i2).toNat) := congrArg F70 (by omega)
      have z8 : F70 ((90 + (6 * i2)) + 2).toNat = F70 (92 + 6 * (i2).toNat) := congrArg F70 (by omega)
      have z9 : F70 ((90 + (6 * i2)) + 4).toNat = F70 (94 + 6 * (i2).toNat) := congrArg F70 (by omega)
      have z10 : F70 ((90 + (6 * i2)) + 5).toNat = F70 (95 + 6 * (i2).toNat) := congrArg F70 (by omega)
      refine zw_3 zr_192_4 rfl ?_
      refine zw_7 zr_192_5 rfl ?_
      refine zw_C zr_192_6 (Or.inl rfl) zm_142 rfl rfl ⟨Nat.le_of_ble_eq_true rfl, Nat.le_of_ble_eq_true rfl, Nat.le_of_ble_eq_true rfl, rfl, by decide⟩ (by omega) (P := (fun v m' => zW E (d) 192 9 [(2, 69), (1, i1), (9, 0), (0, i2)] (if v.1 = 9 then [(0, i2)] else v :: [(0, i2)]) m' Q)) ?_ (fun _ _ h => h)
      generalize hQ1 : (fun v m' => zW E (d) 192 9 [(2, 69), (1, i1), (9, 0), (0, i2)] (if v.1 = 9 then [(0, i2)] else v :: [(0, i2)]) m' Q) = Q1
      show zW E (d - 1) 142 0 [(2, 69)] [] m3 Q1
      refine zw_7 zr_142_0 rfl ?_
      refine zw_46r (s := 70) zr_142_1 rfl rfl rfl rfl ?_
      refine zw_push zr_142_4 ?_
      refine zw_48k (c := 70) (len := 826) zr_142_7 rfl rfl (by omega) (by omega) (show (823 : Int).toNat = 823 by omega) km3_70_823 ?_
      refine zw_R zr_142_8 (by decide) zm_142 (v := (0, g0)) rfl ?_
      rw [← hQ1]
      show zW E (d) 192 9 [(2, 69), (1, i1), (9, 0), (0, i2)] [(0, g0), (0, i2)] m3 Q
      refine zw_41_3 zr_192_9 ?_ ?_
      · intro h11
        refine zw_5 zr_192_63 rfl ?_
        refine zw_R zr_192_64 (by decide) zm_192 (v := (1, i1)) rfl ?_
        rw [← hQ]; exact ⟨_, rfl, by omega, by omega, hIm3, hFm3, by omega, by have z := hv0lp4_5; rw [show i2 = g0 by omega] at z; exact z⟩
      · intro h14
        refine zw_7 zr_192_12 rfl ?_
        refine zw_3 zr_192_13 rfl ?_
        refine zw_C zr_192_14 (Or.inl rfl) zm_181 rfl rfl ⟨Nat.le_of_ble_eq_true rfl, Nat.le_of_ble_eq_true rfl, Nat.le_of_ble_eq_true rfl, rfl, by decide⟩ (by omega) (P := (fun v m' => zW E (d) 192 17 [(2, 69), (1, i1), (9, 0), (0, i2)] (if v.1 = 9 then [] else v :: []) m' Q)) ?_ (fun _ _ h => h)
        generalize hQ1 : (fun v m' => zW E (d) 192 17 [(2, 69), (1, i1), (9, 0), (0, i2)] (if v.1 = 9 then [] else v :: []) m' Q) = Q1
        show zW E (d - 1) 181 0 [(2, 69), (0, i2)] [] m3 Q1
        refine zw_7 zr_181_0 rfl ?_
        refine zw_3 zr_181_1 rfl ?_
        refine zw_push zr_181_2 ?_
        refine zw_C zr_181_3 (Or.inl rfl) zm_144 rfl rfl ⟨Nat.le_of_ble_eq_true rfl, Nat.le_of_ble_eq_true rfl, Nat.le_of_ble_eq_true rfl, rfl, by decide⟩ (by omega) (P := (fun v m' => zW E (d - 1) 181 6 [(2, 69), (0, i2)] (if v.1 = 9 then [] else v :: []) m' Q1)) ?_ (fun _ _ h => h)
        generalize hQ2 : (fun v m' => zW E (d - 1) 181 6 [(2, 69), (0, i2)] (if v.1 = 9 then [] else v :: []) m' Q1) = Q2
        show zW E (d - 1 - 1) 144 0 [(2, 69), (0, i2), (0, 4)] [] m3 Q2
        refine zw_7 zr_144_0 rfl ?_
        refine zw_46r (s := 70) zr_144_1 rfl rfl rfl rfl ?_
        refine zw_push zr_144_4 ?_
        refine zw_push zr_144_6 ?_
        refine zw_3 zr_144_8 rfl ?_
        refine zw_18 zr_144_9 (by omega) ?_
        refine zw_16 zr_144_10 (by omega) ?_
        refine zw_3 zr_144_11 rfl ?_
        refine zw_16 zr_144_12 (by omega) ?_
        refine zw_48 (c := 70) (len := 826) zr_144_13 rfl rfl (by omega) (by omega) ?_
        intro x15 ex15
        have bx15 := ib_70_m4 hIm3 (k := (((90 + (6 * i2)) + 4)).toNat) (by omega)
        rw [← ex15] at bx15
        have qx15 : x15 = F70 (((90 + (6 * i2)) + 4)).toNat := by rw [← fm3_70]; exact ex15
        clear ex15
        refine zw_R zr_144_14 (by decide) zm_144 (v := (0, x15)) rfl ?_
        rw [← hQ2]
        show zW E (d - 1) 181 6 [(2, 69), (0, i2)] [(0, x15)] m3 Q1
        refine zw_40_4 zr_181_6 ?_ ?_
        · intro h16
          refine zw_push zr_181_22 ?_
          refine zw_R zr_181_23 (by decide) zm_181 (v := (0, 0)) (zRetB (by omega)) ?_
          rw [← hQ1]
          show zW E (d) 192 17 [(2, 69), (1, i1), (9, 0), (0, i2)] [(0, 0)] m3 Q
          refine zw_40_1 zr_192_17 ?_ ?_
          · intro h17
            refine zw_15 (c := 1) (L' := [(2, 69), (1, i1), (9, 0), (0, (i2 + 1))]) zr_192_57 rfl (by decide) (by omega) rfl ?_
            refine zw_42 zr_192_60 ?_
            exact zw_less (L := [(2, 69), (1, i1), (9, 0), (0, (i2 + 1))]) ⟨Or.inr rfl, Or.inr rfl, Or.inl rfl, Or.inr rfl, trivial⟩ (ihlp4_5 (i1) ((i2 + 1)) (f4) m3 hIm3 hFm3  km3_70_823 fm3_70 fm3_81 (by omega) (by omega) (by omega) (by omega) (by first | exact zBs_no hv0lp4_5 (by omega) (brr_no (by omega)) | exact zBs_put hv0lp4_5 ei1 (by omega) (brr_t (by assumption) (by omega)) | exact zBs_no hv0lp4_5 (by omega) (brr_f (by assumption) (by omega))) (by omega) (by omega))
          · intro h19; omega
        · intro h20
          refine zw_7 zr_181_9 rfl ?_
          refine zw_3 zr_181_10 rfl ?_
          refine zw_push zr_181_11 ?_
          refine zw_C zr_181_12 (Or.inl rfl) zm_144 rfl rfl ⟨Nat.le_of_ble_eq_true rfl, Nat.le_of_ble_eq_true rfl, Nat.le_of_ble_eq_true rfl, rfl, by decide⟩ (by omega) (P := (fun v m' => zW E (d - 1) 181 15 [(2, 69), (0, i2)] (if v.1 = 9 then [] else v :: []) m' Q1)) ?_ (fun _ _ h => h)
          generalize hQ2 : (fun v m' => zW E (d - 1) 181 15 [(2, 69), (0, i2)] (if v.1 = 9 then [] else v :: []) m' Q1) = Q2
          show zW E (d - 1 - 1) 144 0 [(2, 69), (0, i2), (0, 5)] [] m3 Q2
          refine zw_7 zr_144_0 rfl ?_
          refine zw_46r (s := 70) zr_144_1 rfl rfl rfl rfl ?_
          refine zw_push zr_144_4 ?_
          refine zw_push zr_144_6 ?_
          refine zw_3 zr_144_8 rfl ?_
          refine zw_18 zr_144_9 (by omega) ?_
          refine zw_16 zr_144_10 (by omega) ?_
          refine zw_3 zr_144_11 rfl ?_
          refine zw_16 zr_144_12 (by omega) ?_
          refine zw_48 (c := 70) (len := 826) zr_144_13 rfl rfl (by omega) (by omega) ?_
          intro x21 ex21
          have bx21 := ib_70_m5 hIm3 (k := (((90 + (6 * i2)) + 5)).toNat) (by omega)
          rw [← ex21] at bx21
          have qx21 : x21 = F70 (((90 + (6 * i2)) + 5)).toNat := by rw [← fm3_70]; exact ex21
          clear ex21
          refine zw_R zr_144_14 (by decide) zm_144 (v := (0, x21)) rfl ?_
          rw [← hQ2]
          show zW E (d - 1) 181 15 [(2, 69), (0, i2)] [(0, x21)] m3 Q1
          refine zw_40_4 zr_181_15 ?_ ?_
          · intro h22
            refine zw_push zr_181_22 ?_
            refine zw_R zr_181_23 (by decide) zm_181 (v := (0, 0)) (zRetB (by omega)) ?_
            rw [← hQ1]
            show zW E (d) 192 17 [(2, 69), (1, i1), (9, 0), (0, i2)] [(0, 0)] m3 Q
            refine zw_40_1 zr_192_17 ?_ ?_
            · intro h23
              refine zw_15 (c := 1) (L' := [(2, 69), (1, i1), (9, 0), (0, (i2 + 1))]) zr_192_57 rfl (by decide) (by omega) rfl ?_
              refine zw_42 zr_192_60 ?_
              exact zw_less (L := [(2, 69), (1, i1), (9, 0), (0, (i2 + 1))]) ⟨Or.inr rfl, Or.inr rfl, Or.inl rfl, Or.inr rfl, trivial⟩ (ihlp4_5 (i1) ((i2 + 1)) (f4) m3 hIm3 hFm3  km3_70_823 fm3_70 fm3_81 (by omega) (by omega) (by omega) (by omega) (by first | exact zBs_no hv0lp4_5 (by omega) (brr_no (by omega)) | exact zBs_put hv0lp4_5 ei1 (by omega) (brr_t (by assumption) (by omega)) | exact zBs_no hv0lp4_5 (by omega) (brr_f (by assumption) (by omega))) (by omega) (by omega))
            · intro h25; omega
          · intro h26
            refine zw_push zr_181_18 ?_
            refine zw_42 zr_181_19 ?_
            refine zw_R zr_181_23 (by decide) zm_181 (v := (0, 1)) (zRetB (by omega)) ?_
            rw [← hQ1]
            show zW E (d) 192 17 [(2, 69), (1, i1), (9, 0), (0, i2)] [(0, 1)] m3 Q
            refine zw_40_1 zr_192_17 ?_ ?_
            · intro h27; omega
            · intro h28
              refine zw_7 zr_192_20 rfl ?_
              refine zw_7 zr_192_21 rfl ?_
              refine zw_3 zr_192_22 rfl ?_
              refine zw_push zr_192_23 ?_
              refine zw_C zr_192_24 (Or.inl rfl) zm_144 rfl rfl ⟨Nat.le_of_ble_eq_true rfl, Nat.le_of_ble_eq_true rfl, Nat.le_of_ble_eq_true rfl, rfl, by decide⟩ (by omega) (P := (fun v m' => zW E (d) 192 27 [(2, 69), (1, i1), (9, 0), (0, i2)] (if v.1 = 9 then [(2, 69)] else v :: [(2, 69)]) m' Q)) ?_ (fun _ _ h => h)
              generalize hQ1 : (fun v m' => zW E (d) 192 27 [(2, 69), (1, i1), (9, 0), (0, i2)] (if v.1 = 9 then [(2, 69)] else v :: [(2, 69)]) m' Q) = Q1
              show zW E (d - 1) 144 0 [(2, 69), (0, i2), (0, 1)] [] m3 Q1
              refine zw_7 zr_144_0 rfl ?_
              refine zw_46r (s := 70) zr_144_1 rfl rfl rfl rfl ?_
              refine zw_push zr_144_4 ?_
              refine zw_push zr_144_6 ?_
              refine zw_3 zr_144_8 rfl ?_
              refine zw_18 zr_144_9 (by omega) ?_
              refine zw_16 zr_144_10 (by omega) ?_
              refine zw_3 zr_144_11 rfl ?_
              refine zw_16 zr_144_12 (by omega) ?_
              refine zw_48 (c := 70) (len := 826) zr_144_13 rfl rfl (by omega) (by omega) ?_
              intro x29 ex29
              have bx29 := ib_70_m1 hIm3 (k := (((90 + (6 * i2)) + 1)).toNat) (by omega)
              rw [← ex29] at bx29
              have qx29 : x29 = F70 (((90 + (6 * i2)) + 1)).toNat := by rw [← fm3_70]; exact ex29
              clear ex29
              refine zw_R zr_144_14 (by decide) zm_144 (v := (0, x29)) rfl ?_
              rw [← hQ1]
              show zW E (d) 192 27 [(2, 69), (1, i1), (9, 0), (0, i2)] [(0, x29), (2, 69)] m3 Q
              refine zw_3 zr_192_27 rfl ?_
              refine zw_C zr_192_28 (Or.inl rfl) zm_188 rfl rfl ⟨Nat.le_of_ble_eq_true rfl, Nat.le_of_ble_eq_true rfl, Nat.le_of_ble_eq_true rfl, rfl, by decide⟩ (by omega) (th_188 (d := d - 1) (by omega) hIm3 (a0 := x29) (a1 := i2) (g0 := g0)  (F70 := F70) (F81 := f4) km3_70_823 fm3_70 fm3_81 (by omega) (by omega) ) ?_
              rintro _ m30 ⟨rfl, hIm30, gm30, po0_m30, po1_m30⟩
              have hFm30 : zFr W_192 m0 m30 := hFm3.trans gm30 rfl
              have km30_70_823 : m30 70 823 = g0 := (gm30 70 823 rfl).trans km3_70_823
              have fm30_70 : m30 70 = F70 := (funext fun k => gm30 70 k rfl).trans fm3_70
              obtain ⟨f31, fm30_81⟩ : ∃ f, m30 81 = f := ⟨_, rfl⟩
              try rw [fm30_81] at po0_m30
              try rw [fm30_81] at po1_m30
              show zW E (d) 192 31 [(2, 69), (1, i1), (9, 0), (0, i2)] [] m30 Q
              refine zw_5 zr_192_31 rfl ?_
              refine zw_7 zr_192_32 rfl ?_
              refine zw_46r (s := 81) zr_192_33 rfl rfl rfl rfl ?_
              refine zw_7 zr_192_36 rfl ?_
              refine zw_3 zr_192_37 rfl ?_
              refine zw_push zr_192_38 ?_
              refine zw_C zr_192_39 (Or.inl rfl) zm_144 rfl rfl ⟨Nat.le_of_ble_eq_true rfl, Nat.le_of_ble_eq_true rfl, Nat.le_of_ble_eq_true rfl, rfl, by decide⟩ (by omega) (P := (fun v m' => zW E (d) 192 42 [(2, 69), (1, i1), (9, 0), (0, i2)] (if v.1 = 9 then [(2, 81), (1, i1)] else v :: [(2, 81), (1, i1)]) m' Q)) ?_ (fun _ _ h => h)
              generalize hQ1 : (fun v m' => zW E (d) 192 42 [(2, 69), (1, i1), (9, 0), (0, i2)] (if v.1 = 9 then [(2, 81), (1, i1)] else v :: [(2, 81), (1, i1)]) m' Q) = Q1
              show zW E (d - 1) 144 0 [(2, 69), (0, i2), (0, 2)] [] m30 Q1
              refine zw_7 zr_144_0 rfl ?_
              refine zw_46r (s := 70) zr_144_1 rfl rfl rfl rfl ?_
              refine zw_push zr_144_4 ?_
              refine zw_push zr_144_6 ?_
              refine zw_3 zr_144_8 rfl ?_
              refine zw_18 zr_144_9 (by omega) ?_
              refine zw_16 zr_144_10 (by omega) ?_
              refine zw_3 zr_144_11 rfl ?_
              refine zw_16 zr_144_12 (by omega) ?_
              refine zw_48 (c := 70) (len := 826) zr_144_13 rfl rfl (by omega) (by omega) ?_
              intro x32 ex32
              have bx32 := ib_70_m2 hIm30 (k := (((90 + (6 * i2)) + 2)).toNat) (by omega)
              rw [← ex32] at bx32
              have qx32 : x32 = F70 (((90 + (6 * i2)) + 2)).toNat := by rw [← fm30_70]; exact ex32
              clear ex32
              refine zw_R zr_144_14 (by decide) zm_144 (v := (0, x32)) rfl ?_
              rw [← hQ1]
              show zW E (d) 192 42 [(2, 69), (1, i1), (9, 0), (0, i2)] [(0, x32), (2, 81), (1, i1)] m30 Q
              refine zw_48 (c := 81) (len := 10) zr_192_42 rfl rfl (by omega) (by omega) ?_
              intro x33 ex33
              have bx33 := ib_81 hIm30 (k := (x32).toNat) (by omega)
              rw [← ex33] at bx33
              have qx33 : x33 = f31 (x32).toNat := by rw [← fm30_81]; exact ex33
              clear ex33
              refine zw_push zr_192_43 ?_
              have z34 := brr_c po1_m30 (by omega) (by omega) (by omega) (by omega) qx33
              refine zw_41_0 zr_192_45 ?_ ?_
              · intro h35
                refine zw_push zr_192_54 ?_
                refine zw_31z zr_192_55 (by omega) ?_
                refine zw_13 (L' := [(2, 69), (1, i1), (9, 0), (0, i2)]) zr_192_56 (Nat.le_of_ble_eq_true rfl) rfl ?_
                refine zw_15 (c := 1) (L' := [(2, 69), (1, i1), (9, 0), (0, (i2 + 1))]) zr_192_57 rfl (by decide) (by omega) rfl ?_
                refine zw_42 zr_192_60 ?_
                exact zw_less (L := [(2, 69), (1, i1), (9, 0), (0, (i2 + 1))]) ⟨Or.inr rfl, Or.inr rfl, Or.inl rfl, Or.inr rfl, trivial⟩ (ihlp4_5 (i1) ((i2 + 1)) (f31) m30 hIm30 hFm30  km30_70_823 fm30_70 fm30_81 (by omega) (by omega) (by omega) (by omega) (by first | exact zBs_no hv0lp4_5 (by omega) (brr_no (by omega)) | exact zBs_put hv0lp4_5 ei1 (by omega) (brr_t (by assumption) (by omega)) | exact zBs_no hv0lp4_5 (by omega) (brr_f (by assumption) (by omega))) (by omega) (by omega))
              · intro h37
                refine zw_push zr_192_48 ?_
                refine zw_3 zr_192_49 rfl ?_
                refine zw_33q zr_192_50 (by omega) ?_
                intro x38 ex38 hx38a hx38b
                refine zw_42 zr_192_51 ?_
                refine zw_31p (s := i2) zr_192_55 ex38 (by omega) (by omega) ?_
                intro x39 ex39 hx39a hx39b
                refine zw_13 (L' := [(2, 69), (1, x39), (9, 0), (0, i2)]) zr_192_56 (Nat.le_of_ble_eq_true rfl) rfl ?_
                refine zw_15 (c := 1) (L' := [(2, 69), (1, x39), (9, 0), (0, (i2 + 1))]) zr_192_57 rfl (by decide) (by omega) rfl ?_
                refine zw_42 zr_192_60 ?_
                exact zw_less (L := [(2, 69), (1, x39), (9, 0), (0, (i2 + 1))]) ⟨Or.inr rfl, Or.inr rfl, Or.inl rfl, Or.inr rfl, trivial⟩ (ihlp4_5 (x39) ((i2 + 1)) (f31) m30 hIm30 hFm30  km30_70_823 fm30_70 fm30_81 (by omega) (by omega) (by omega) (by omega) (by first | exact zBs_no hv0lp4_5 (by omega) (brr_no (by omega)) | exact zBs_put hv0lp4_5 ex39 (by omega) (brr_t (by assumption) (by omega)) | exact zBs_no hv0lp4_5 (by omega) (brr_f (by assumption) (by omega))) (by omega) (by omega))
  exact lp4_5 _ (0) (0) (F81) m0 hI0 hF0  hg0 hG70 hG81 (by omega) (by omega) (by omega) (by omega) (zBs_0) (by omega) (Nat.lt_succ_self _)

abbrev W_4_54 : List (Nat × Nat) := [(54, 1000)]
set_option maxHeartbeats 8000000 in
theorem th_4_54 {E : zE} {d : Nat} {m0 : zM} {a0 : Int} {F54 : Nat → Int} (hd : 1 ≤ d) (hI0 : zInv m0) (hG54 : m0 54 = F54) (ha0 : 0 ≤ a0 ∧ a0 ≤ 0) : zC E d 4 [(2, 54), (0, a0)] m0 (fun v m' => v = (9, 0) ∧ zInv m' ∧ zFr W_4_54 m0 m' ∧ (zFil (m' 54) 10 a0)) := by
  have hF0 : zFr W_4_54 m0 m0 := zFr.rfl
  generalize hQ : (fun (v : zV) (m' : zM) => v = (9, 0) ∧ zInv m' ∧ zFr W_4_54 m0 m' ∧ (zFil (m' 54) 10 a0)) = Q
  show zW E d 4 0 [(2, 54), (0, a0), (9, 0), (9, 0)] [] m0 Q
  refine zw_push zr_4_0 ?_
  refine zw_9 (L' := [(2, 54), (0, a0), (0, 0), (9, 0)]) zr_4_1 (Nat.le_of_ble_eq_true rfl) rfl ?_
  refine zw_7 zr_4_2 rfl ?_
  refine zw_101 (c := 54) (len := 10) zr_4_3 rfl rfl (by decide) ?_
  refine zw_9 (L' := [(2, 54), (0, a0), (0, 0), (0, 10)]) zr_4_4 (Nat.le_of_ble_eq_true rfl) rfl ?_
  have lp5_4 : ∀ (nlp5_4 : Nat) (i1 : Int) (f3 : Nat → Int) (m2 : zM), zInv m2 → zFr W_4_54 m0 m2 → m2 54 = f3 → 0 ≤ i1 → i1 ≤ 10 → (zFil f3 i1 a0) → (10 - i1).toNat < nlp5_4 → zW E (d) 4 5 [(2, 54), (0, a0), (0, i1), (0, 10)] [] m2 Q := by
    intro nlp5_4
    induction nlp5_4 with
    | zero =>
      intros
      exact absurd (by assumption : _ < 0) (Nat.not_lt_zero _)
    | succ nlp5_4 ihlp5_4 =>
      intro i1 f3 m2 hIm2 hFm2 fm2_54 li1 ui1 hv0lp5_4 hmlp5_4
      refine zw_3 zr_4_5 rfl ?_
      refine zw_3 zr_4_6 rfl ?_
      refine zw_41_3 zr_4_7 ?_ ?_
      · intro h6
        refine zw_R zr_4_20 (by decide) zm_4 (v := (9, 0)) rfl ?_
        rw [← hQ]; exact ⟨rfl, hIm2, hFm2, by rw [fm2_54]; exact zFil_le hv0lp5_4 (by omega)⟩
      · intro h8
        refine zw_7 zr_4_10 rfl ?_
        refine zw_3 zr_4_11 rfl ?_
        refine zw_3 zr_4_12 rfl ?_
        refine zw_49 (c := 54) (len := 10) zr_4_13 rfl rfl (by omega) (by omega) ?_
        intro m9 em9
        have hIm9 : zInv m9 := by rw [em9]; exact iu_54 hIm2 (by omega)
        have hFm9 : zFr W_4_54 m0 m9 := by rw [em9]; exact hFm2.any rfl
        have fm9_54 : m9 54 = zPt f3 ((i1).toNat) a0 := by rw [em9]; exact (zUp_ff (m := m2)).trans (congrArg (fun q => zPt q ((i1).toNat) a0) fm2_54)
        clear em9
        refine zw_15 (c := 1) (L' := [(2, 54), (0, a0), (0, (i1 + 1)), (0, 10)]) zr_4_14 rfl (by decide) (by omega) rfl ?_
        refine zw_42 zr_4_17 ?_
        exact zw_less (L := [(2, 54), (0, a0), (0, (i1 + 1)), (0, 10)]) ⟨Or.inr rfl, Or.inr rfl, Or.inr rfl, Or.inr rfl, trivial⟩ (ihlp5_4 ((i1 + 1)) (zPt f3 ((i1).toNat) a0) m9 hIm9 hFm9   fm9_54 (by omega) (by omega) (zFil_put hv0lp5_4 (by omega)) (by omega))
  exact lp5_4 _ (0) (F54) m0 hI0 hF0  hG54 (by omega) (by omega) (zFil_0) (Nat.lt_succ_self _)

abbrev W_31 : List (Nat × Nat) := [(52, 0), (52, 1), (52, 2)]
set_option maxHeartbeats 8000000 in
theorem th_31 {E : zE} {d : Nat} {m0 : zM} {a0 : Int} {a1 : Int} {a2 : Int} {g0 : Int} {g1 : Int} {g2 : Int} (hd : 1 ≤ d) (hI0 : zInv m0) (hg0 : m0 52 0 = g0) (hg1 : m0 52 1 = g1) (hg2 : m0 52 2 = g2) (ha0 : 0 ≤ a0 ∧ a0 ≤ 9) (ha1 : (-2147483648) ≤ a1 ∧ a1 ≤ 2147483647) (ha2 : (-2147483648) ≤ a2 ∧ a2 ≤ 2147483647) (hp0 : g0 = -1 ∨ (0 ≤ g0 ∧ g0 ≤ 9 ∧ -2000000 ≤ g1 ∧ g1 ≤ 2000000 ∧ 1 ≤ g2 ∧ g2 ≤ 10)) (hp1 : -2000000 ≤ a1 ∧ a1 ≤ 2000000 ∧ 1 ≤ a2 ∧ a2 ≤ 10) : zC E d 31 [(2, 52), (0, a0), (1, a1), (1, a2)] m0 (fun v m' => v = (9, 0) ∧ zInv m' ∧ zFr W_31 m0 m' ∧ (zOf g0 g1 g2 a0 a1 a2 (m' 52 0) (m' 52 1) (m' 52 2)) ∧ (((m' 52 0) = a0 ∧ (m' 52 1) = a1 ∧ (m' 52 2) = a2) ∨ ((m' 52 0) = g0 ∧ (m' 52 1) = g1 ∧ (m' 52 2) = g2))) := by
  have hF0 : zFr W_31 m0 m0 := zFr.rfl
  have bg0 := ib_52_0 hI0
  rw [hg0] at bg0
  have bg1 := hI0.fl (c := 52) (k := 1) rfl
  rw [hg1] at bg1
  have bg2 := hI0.fl (c := 52) (k := 2) rfl
  rw [hg2] at bg2
  generalize hQ : (fun (v : zV) (m' : zM) => v = (9, 0) ∧ zInv m' ∧ zFr W_31 m0 m' ∧ (zOf g0 g1 g2 a0 a1 a2 (m' 52 0) (m' 52 1) (m' 52 2)) ∧ (((m' 52 0) = a0 ∧ (m' 52 1) = a1 ∧ (m' 52 2) = a2) ∨ ((m' 52 0) = g0 ∧ (m' 52 1) = g1 ∧ (m' 52 2) = g2))) = Q
  show zW E d 31 0 [(2, 52), (0, a0), (1, a1), (9, 0), (1, a2), (9, 0), (9, 0), (9, 0)] [] m0 Q
  refine zw_7 zr_31_0 rfl ?_
  refine zw_46i zr_31_1 hg0 rfl rfl rfl ?_
  refine zw_push zr_31_4 ?_
  refine zw_41_4 zr_31_5 ?_ ?_
  · intro h1
    refine zw_5 zr_31_12 rfl ?_
    refine zw_7 zr_31_13 rfl ?_
    refine zw_46l zr_31_14 hg2 rfl rfl rfl ?_
    refine zw_29q (A := 2000000) (B := 10) zr_31_17 (by omega) (by omega) (by decide) ?_
    intro x2 ex2 hx2a hx2b
    refine zw_7 zr_31_18 rfl ?_
    refine zw_46l zr_31_19 hg1 rfl rfl rfl ?_
    refine zw_6 zr_31_22 rfl ?_
    refine zw_29q (A := 2000000) (B := 10) zr_31_24 (by omega) (by omega) (by decide) ?_
    intro x3 ex3 hx3a hx3b
    have hx := ex2
    have hy := ex3
    refine zw_28 zr_31_25 (by omega) ?_
    refine zw_14 (L' := [(2, 52), (0, a0), (1, a1), (9, 0), (1, a2), (9, 0), (1, (x2 - x3)), (9, 0)]) zr_31_26 (Nat.le_of_ble_eq_true rfl) rfl ?_
    refine zw_6 zr_31_28 rfl ?_
    refine zw_push zr_31_30 ?_
    refine zw_39_2 zr_31_31 zr_31_32 ?_ ?_
    · intro h6
      refine zw_7 zr_31_50 rfl ?_
      refine zw_3 zr_31_51 rfl ?_
      refine zw_47 (c := 52) zr_31_52 rfl ⟨rfl, by decide, rfl⟩ ?_
      intro m7 em7
      have hIm7 : zInv m7 := by rw [em7]; exact hI0.bd (r := 52) (k := 0) (lo := (-1)) (hi := 9) rfl (by omega) (by decide) (by decide) (by decide)
      have hFm7 : zFr W_31 m0 m7 := by rw [em7]; exact hF0.up rfl
      have km7_52_1 : m7 52 1 = g1 := by rw [em7, zUp_ne (by omega)]; exact hg1
      have km7_52_2 : m7 52 2 = g2 := by rw [em7, zUp_ne (by omega)]; exact hg2
      have km7_52_0 : m7 52 0 = a0 := by rw [em7]; exact zUp_eq _ _ _ _
      clear em7
      refine zw_7 zr_31_55 rfl ?_
      refine zw_5 zr_31_56 rfl ?_
      refine zw_47 (c := 52) zr_31_57 rfl ⟨rfl, by decide, rfl⟩ ?_
      intro m8 em8
      have hIm8 : zInv m8 := by rw [em8]; exact hIm7.anyl (by omega) (by decide) rfl (by decide) (by decide)
      have hFm8 : zFr W_31 m0 m8 := by rw [em8]; exact hFm7.up rfl
      have km8_52_2 : m8 52 2 = g2 := by rw [em8, zUp_ne (by omega)]; exact km7_52_2
      have km8_52_0 : m8 52 0 = a0 := by rw [em8, zUp_ne (by omega)]; exact km7_52_0
      have km8_52_1 : m8 52 1 = a1 := by rw [em8]; exact zUp_eq _ _ _ _
      clear em8
      refine zw_7 zr_31_60 rfl ?_
      refine zw_6 zr_31_61 rfl ?_
      refine zw_47 (c := 52) zr_31_63 rfl ⟨rfl, by decide, rfl⟩ ?_
      intro m9 em9
      have hIm9 : zInv m9 := by rw [em9]; exact hIm8.anyl (by omega) (by decide) rfl (by decide) (by decide)
      have hFm9 : zFr W_31 m0 m9 := by rw [em9]; exact hFm8.up rfl
      have km9_52_0 : m9 52 0 = a0 := by rw [em9, zUp_ne (by omega)]; exact km8_52_0
      have km9_52_1 : m9 52 1 = a1 := by rw [em9, zUp_ne (by omega)]; exact km8_52_1
      have km9_52_2 : m9 52 2 = a2 := by rw [em9]; exact zUp_eq _ _ _ _
      clear em9
      refine zw_R zr_31_66 (by decide) zm_31 (v := (9, 0)) rfl ?_
      rw [← hQ]; exact ⟨rfl, hIm9, hFm9, by rw [km9_52_0, km9_52_1, km9_52_2]; first | exact zOf_1 (by omega) | exact zOf_m hx hy (by omega), by omega⟩
    · intro h12
      refine zw_6 zr_31_35 rfl ?_
      refine zw_push zr_31_37 ?_
      refine zw_39_4 zr_31_38 zr_31_39 ?_ ?_
      · intro h13
        refine zw_R zr_31_66 (by decide) zm_31 (v := (9, 0)) rfl ?_
        rw [← hQ]; exact ⟨rfl, hI0, hF0, by rw [hg0, hg1, hg2]; first | exact zOf_1 (by omega) | exact zOf_m hx hy (by omega), by omega⟩
      · intro h16
        refine zw_3 zr_31_42 rfl ?_
        refine zw_7 zr_31_43 rfl ?_
        refine zw_46i zr_31_44 hg0 rfl rfl rfl ?_
        refine zw_41_3 zr_31_47 ?_ ?_
        · intro h17
          refine zw_R zr_31_66 (by decide) zm_31 (v := (9, 0)) rfl ?_
          rw [← hQ]; exact ⟨rfl, hI0, hF0, by rw [hg0, hg1, hg2]; first | exact zOf_1 (by omega) | exact zOf_m hx hy (by omega), by omega⟩
        · intro h20
          refine zw_7 zr_31_50 rfl ?_
          refine zw_3 zr_31_51 rfl ?_
          refine zw_47 (c := 52) zr_31_52 rfl ⟨rfl, by decide, rfl⟩ ?_
          intro m21 em21
          have hIm21 : zInv m21 := by rw [em21]; exact hI0.bd (r := 52) (k := 0) (lo := (-1)) (hi := 9) rfl (by omega) (by decide) (by decide) (by decide)
          have hFm21 : zFr W_31 m0 m21 := by rw [em21]; exact hF0.up rfl
          have km21_52_1 : m21 52 1 = g1 := by rw [em21, zUp_ne (by omega)]; exact hg1
          have km21_52_2 : m21 52 2 = g2 := by rw [em21, zUp_ne (by omega)]; exact hg2
          have km21_52_0 : m21 52 0 = a0 := by rw [em21]; exact zUp_eq _ _ _ _
          clear em21
          refine zw_7 zr_31_55 rfl ?_
          refine zw_5 zr_31_56 rfl ?_
          refine zw_47 (c := 52) zr_31_57 rfl ⟨rfl, by decide, rfl⟩ ?_
          intro m22 em22
          have hIm22 : zInv m22 := by rw [em22]; exact hIm21.anyl (by omega) (by decide) rfl (by decide) (by decide)
          have hFm22 : zFr W_31 m0 m22 := by rw [em22]; exact hFm21.up rfl
          have km22_52_2 : m22 52 2 = g2 := by rw [em22, zUp_ne (by omega)]; exact km21_52_2
          have km22_52_0 : m22 52 0 = a0 := by rw [em22, zUp_ne (by omega)]; exact km21_52_0
          have km22_52_1 : m22 52 1 = a1 := by rw [em22]; exact zUp_eq _ _ _ _
          clear em22
          refine zw_7 zr_31_60 rfl ?_
          refine zw_6 zr_31_61 rfl ?_
          refine zw_47 (c := 52) zr_31_63 rfl ⟨rfl, by decide, rfl⟩ ?_
          intro m23 em23
          have hIm23 : zInv m23 := by rw [em23]; exact hIm22.anyl (by omega) (by decide) rfl (by decide) (by decide)
          have hFm23 : zFr W_31 m0 m23 := by rw [em23]; exact hFm22.up rfl
          have km23_52_0 : m23 52 0 = a0 := by rw [em23, zUp_ne (by omega)]; exact km22_52_0
          have km23_52_1 : m23 52 1 = a1 := by rw [em23, zUp_ne (by omega)]; exact km22_52_1
          have km23_52_2 : m23 52 2 = a2 := by rw [em23]; exact zUp_eq _ _ _ _
          clear em23
          refine zw_R zr_31_66 (by decide) zm_31 (v := (9, 0)) rfl ?_
          rw [← hQ]; exact ⟨rfl, hIm23, hFm23, by rw [km23_52_0, km23_52_1, km23_52_2]; first | exact zOf_1 (by omega) | exact zOf_m hx hy (by omega), by omega⟩
  · intro h26
    refine zw_push zr_31_8 ?_
    refine zw_42 zr_31_9 ?_
    refine zw_14 (L' := [(2, 52), (0, a0), (1, a1), (9, 0), (1, a2), (9, 0), (1, 1), (9, 0)]) zr_31_26 (Nat.le_of_ble_eq_true rfl) rfl ?_
    refine zw_6 zr_31_28 rfl ?_
    refine zw_push zr_31_30 ?_
    refine zw_39_2 zr_31_31 zr_31_32 ?_ ?_
    · intro h27
      refine zw_7 zr_31_50 rfl ?_
      refine zw_3 zr_31_51 rfl ?_
      refine zw_47 (c := 52) zr_31_52 rfl ⟨rfl, by decide, rfl⟩ ?_
      intro m28 em28
      have hIm28 : zInv m28 := by rw [em28]; exact hI0.bd (r := 52) (k := 0) (lo := (-1)) (hi := 9) rfl (by omega) (by decide) (by decide) (by decide)
      have hFm28 : zFr W_31 m0 m28 := by rw [em28]; exact hF0.up rfl
      have km28_52_1 : m28 52 1 = g1 := by rw [em28, zUp_ne (by omega)]; exact hg1
      have km28_52_2 : m28 52 2 = g2 := by rw [em28, zUp_ne (by omega)]; exact hg2
      have km28_52_0 : m28 52 0 = a0 := by rw [em28]; exact zUp_eq _ _ _ _
      clear em28
      refine zw_7 zr_31_55 rfl ?_
      refine zw_5 zr_31_56 rfl ?_
      refine zw_47 (c := 52) zr_31_57 rfl ⟨rfl, by decide, rfl⟩ ?_
      intro m29 em29
      have hIm29 : zInv m29 := by rw [em29]; exact hIm28.anyl (by omega) (by decide) rfl (by decide) (by decide)
      have hFm29 : zFr W_31 m0 m29 := by rw [em29]; exact hFm28.up rfl
      have km29_52_2 : m29 52 2 = g2 := by rw [em29, zUp_ne (by omega)]; exact km28_52_2
      have km29_52_0 : m29 52 0 = a0 := by rw [em29, zUp_ne (by omega)]; exact km28_52_0
      have km29_52_1 : m29 52 1 = a1 := by rw [em29]; exact zUp_eq _ _ _ _
      clear em29
      refine zw_7 zr_31_60 rfl ?_
      refine zw_6 zr_31_61 rfl ?_
      refine zw_47 (c := 52) zr_31_63 rfl ⟨rfl, by decide, rfl⟩ ?_
      intro m30 em30
      have hIm30 : zInv m30 := by rw [em30]; exact hIm29.anyl (by omega) (by decide) rfl (by decide) (by decide)
      have hFm30 : zFr W_31 m0 m30 := by rw [em30]; exact hFm29.up rfl
      have km30_52_0 : m30 52 0 = a0 := by rw [em30, zUp_ne (by omega)]; exact km29_52_0
      have km30_52_1 : m30 52 1 = a1 := by rw [em30, zUp_ne (by omega)]; exact km29_52_1
      have km30_52_2 : m30 52 2 = a2 := by rw [em30]; exact zUp_eq _ _ _ _
      clear em30
      refine zw_R zr_31_66 (by decide) zm_31 (v := (9, 0)) rfl ?_
      rw [← hQ]; exact ⟨rfl, hIm30, hFm30, by rw [km30_52_0, km30_52_1, km30_52_2]; first | exact zOf_1 (by omega) | exact zOf_m hx hy (by omega), by omega⟩
    · intro h33; omega

abbrev W_32 : List (Nat × Nat) := [(52, 0), (52, 1), (52, 2), (53, 1000), (54, 1000)]
set_option maxHeartbeats 8000000 in
theorem th_32 {E : zE} {d : Nat} {m0 : zM} {a0 : Int} {a1 : Int} {g0 : Int} {g1 : Int} {g2 : Int} {gY : Int} {F44 : Nat → Int} {F53 : Nat → Int} {F54 : Nat → Int} (hd : 2 ≤ d) (hI0 : zInv m0) (hg0 : m0 52 0 = g0) (hg1 : m0 52 1 = g1) (hg2 : m0 52 2 = g2) (hG44 : m0 44 = F44) (hG53 : m0 53 = F53) (hG54 : m0 54 = F54) (ha0 : 0 ≤ a0 ∧ a0 ≤ 9) (ha1 : (-2147483648) ≤ a1 ∧ a1 ≤ 2147483647) (hp0 : zY F54 a0 gY) (hp1 : 0 ≤ gY ∧ gY ≤ 59) (hp2 : g0 = -1 ∨ (0 ≤ g0 ∧ g0 ≤ 9 ∧ -2000000 ≤ g1 ∧ g1 ≤ 2000000 ∧ 1 ≤ g2 ∧ g2 ≤ 10)) (hp3 : nbB F44) : zC E d 32 [(2, 52), (0, a0), (0, a1)] m0 (fun v m' => v = (9, 0) ∧ zInv m' ∧ zFr W_32 m0 m' ∧ (zY (m' 54) (a0 + 1) gY) ∧ (m' 53 = zPt F53 (a0 * 9 + F54 a0.toNat % 9).toNat (F44 a0.toNat)) ∧ (m' 54 = zPt F54 a0.toNat (F54 a0.toNat + 1)) ∧ ((F54 a0.toNat + 1 < a1 ∧ (m' 52 0) = g0 ∧ (m' 52 1) = g1 ∧ (m' 52 2) = g2) ∨ (a1 ≤ F54 a0.toNat + 1 ∧ (a1 < 1 ∨ ∃ x, rgm (m' 53) a0 (F54 a0.toNat + 1) a1 x ∧ zOf g0 g1 g2 a0 x 1 (m' 52 0) (m' 52 1) (m' 52 2)))) ∧ ((m' 52 0) = -1 ∨ (0 ≤ (m' 52 0) ∧ (m' 52 0) ≤ 9 ∧ -2000000 ≤ (m' 52 1) ∧ (m' 52 1) ≤ 2000000 ∧ 1 ≤ (m' 52 2) ∧ (m' 52 2) ≤ 10))) := by
  have hF0 : zFr W_32 m0 m0 := zFr.rfl
  have bg0 := ib_52_0 hI0
  rw [hg0] at bg0
  have bg1 := hI0.fl (c := 52) (k := 1) rfl
  rw [hg1] at bg1
  have bg2 := hI0.fl (c := 52) (k := 2) rfl
  rw [hg2] at bg2
  generalize hQ : (fun (v : zV) (m' : zM) => v = (9, 0) ∧ zInv m' ∧ zFr W_32 m0 m' ∧ (zY (m' 54) (a0 + 1) gY) ∧ (m' 53 = zPt F53 (a0 * 9 + F54 a0.toNat % 9).toNat (F44 a0.toNat)) ∧ (m' 54 = zPt F54 a0.toNat (F54 a0.toNat + 1)) ∧ ((F54 a0.toNat + 1 < a1 ∧ (m' 52 0) = g0 ∧ (m' 52 1) = g1 ∧ (m' 52 2) = g2) ∨ (a1 ≤ F54 a0.toNat + 1 ∧ (a1 < 1 ∨ ∃ x, rgm (m' 53) a0 (F54 a0.toNat + 1) a1 x ∧ zOf g0 g1 g2 a0 x 1 (m' 52 0) (m' 52 1) (m' 52 2)))) ∧ ((m' 52 0) = -1 ∨ (0 ≤ (m' 52 0) ∧ (m' 52 0) ≤ 9 ∧ -2000000 ≤ (m' 52 1) ∧ (m' 52 1) ≤ 2000000 ∧ 1 ≤ (m' 52 2) ∧ (m' 52 2) ≤ 10))) = Q
  show zW E d 32 0 [(2, 52), (0, a0), (0, a1), (9, 0), (9, 0)] [] m0 Q
  refine zw_7 zr_32_0 rfl ?_
  refine zw_46r (s := 53) zr_32_1 rfl rfl rfl rfl ?_
  refine zw_3 zr_32_4 rfl ?_
  refine zw_push zr_32_5 ?_
  refine zw_18 zr_32_7 (by omega) ?_
  refine zw_7 zr_32_8 rfl ?_
  refine zw_46r (s := 54) zr_32_9 rfl rfl rfl rfl ?_
  refine zw_3 zr_32_12 rfl ?_
  refine zw_48 (c := 54) (len := 10) zr_32_13 rfl rfl (by omega) (by omega) ?_
  intro x1 ex1
  have bx1 := ib_54 hI0 (k := (a0).toNat) (by omega)
  rw [← ex1] at bx1
  have qx1 : x1 = F54 (a0).toNat := by rw [← hG54]; exact ex1
  clear ex1
  have hQ1 := qx1
  have z3 : x1 ≤ gY := by rw [qx1]; exact zY_at hp0 (by omega) (by omega)
  refine zw_push zr_32_14 ?_
  refine zw_20 zr_32_16 (by omega) (by omega) (by omega) (by omega) ?_
  refine zw_16 zr_32_17 (by omega) ?_
  refine zw_7 zr_32_18 rfl ?_
  refine zw_46r (s := 43) zr_32_19 rfl rfl rfl rfl ?_
  refine zw_46r (s := 44) zr_32_22 rfl rfl rfl rfl ?_
  refine zw_3 zr_32_25 rfl ?_
  refine zw_48 (c := 44) (len := 10) zr_32_26 rfl rfl (by omega) (by omega) ?_
  intro x4 ex4
  have bx4 := hI0.ra (c := 44) (len := 10) (k := (a0).toNat) rfl (by omega)
  rw [← ex4] at bx4
  have qx4 : x4 = F44 (a0).toNat := by rw [← hG44]; exact ex4
  clear ex4
  have hQ2 := qx4
  have hb : -100000 ≤ x4 ∧ x4 ≤ 100000 := by rw [qx4]; exact hp3 a0.toNat (by omega)
  refine zw_49 (c := 53) (len := 90) zr_32_27 rfl rfl (by omega) (by omega) ?_
  intro m7 em7
  have hIm7 : zInv m7 := by rw [em7]; exact iu_53 hI0 (by omega)
  have hFm7 : zFr W_32 m0 m7 := by rw [em7]; exact hF0.any rfl
  have km7_52_0 : m7 52 0 = g0 := by rw [em7, zUp_ne (by omega)]; exact hg0
  have km7_52_1 : m7 52 1 = g1 := by rw [em7, zUp_ne (by omega)]; exact hg1
  have km7_52_2 : m7 52 2 = g2 := by rw [em7, zUp_ne (by omega)]; exact hg2
  have fm7_44 : m7 44 = F44 := by rw [em7, zUp_fn (by decide)]; exact hG44
  have fm7_53 : m7 53 = zPt F53 ((((a0 * 9) + (x1 % 9))).toNat) x4 := by rw [em7]; exact (zUp_ff (m := m0)).trans (congrArg (fun q => zPt q ((((a0 * 9) + (x1 % 9))).toNat) x4) hG53)
  have fm7_54 : m7 54 = F54 := by rw [em7, zUp_fn (by decide)]; exact hG54
  clear em7
  refine zw_7 zr_32_28 rfl ?_
  refine zw_46r (s := 54) zr_32_29 rfl rfl rfl rfl ?_
  refine zw_3 zr_32_32 rfl ?_
  refine zw_45 zr_32_33 ⟨rfl, rfl⟩ ?_
  refine zw_48 (c := 54) (len := 10) zr_32_34 rfl rfl (by omega) (by omega) ?_
  intro x8 ex8
  have bx8 := ib_54 hIm7 (k := (a0).toNat) (by omega)
  rw [← ex8] at bx8
  have qx8 : x8 = F54 (a0).toNat := by rw [← fm7_54]; exact ex8
  clear ex8
  have hQ3 := qx8
  have z10 : x8 ≤ gY := by rw [qx8]; exact zY_at hp0 (by omega) (by omega)
  refine zw_push zr_32_35 ?_
  refine zw_16 zr_32_36 (by omega) ?_
  refine zw_49 (c := 54) (len := 10) zr_32_37 rfl rfl (by omega) (by omega) ?_
  intro m11 em11
  have hIm11 : zInv m11 := by rw [em11]; exact iu_54 hIm7 (by omega)
  have hFm11 : zFr W_32 m0 m11 := by rw [em11]; exact hFm7.any rfl
  have km11_52_0 : m11 52 0 = g0 := by rw [em11, zUp_ne (by omega)]; exact km7_52_0
  have km11_52_1 : m11 52 1 = g1 := by rw [em11, zUp_ne (by omega)]; exact km7_52_1
  have km11_52_2 : m11 52 2 = g2 := by rw [em11, zUp_ne (by omega)]; exact km7_52_2
  have fm11_44 : m11 44 = F44 := by rw [em11, zUp_fn (by decide)]; exact fm7_44
  have fm11_53 : m11 53 = zPt F53 ((((a0 * 9) + (x1 % 9))).toNat) x4 := by rw [em11, zUp_fn (by decide)]; exact fm7_53
  have fm11_54 : m11 54 = zPt F54 ((a0).toNat) ((x8 + 1)) := by rw [em11]; exact (zUp_ff (m := m7)).trans (congrArg (fun q => zPt q ((a0).toNat) ((x8 + 1))) fm7_54)
  clear em11
  refine zw_7 zr_32_38 rfl ?_
  refine zw_46r (s := 54) zr_32_39 rfl rfl rfl rfl ?_
  refine zw_3 zr_32_42 rfl ?_
  refine zw_48 (c := 54) (len := 10) zr_32_43 rfl rfl (by omega) (by omega) ?_
  intro x12 ex12
  have bx12 := ib_54 hIm11 (k := (a0).toNat) (by omega)
  rw [← ex12] at bx12
  have qx12 : x12 = (zPt F54 ((a0).toNat) ((x8 + 1))) (a0).toNat := by rw [← fm11_54]; exact ex12
  clear ex12
  have hC : x12 = F54 a0.toNat + 1 := by rw [qx12, zPt_eq, hQ3]
  refine zw_3 zr_32_44 rfl ?_
  refine zw_41_3 zr_32_45 ?_ ?_
  · intro h14
    refine zw_7 zr_32_49 rfl ?_
    refine zw_46r (s := 43) zr_32_50 rfl rfl rfl rfl ?_
    refine zw_46r (s := 44) zr_32_53 rfl rfl rfl rfl ?_
    refine zw_3 zr_32_56 rfl ?_
    refine zw_48 (c := 44) (len := 10) zr_32_57 rfl rfl (by omega) (by omega) ?_
    intro x15 ex15
    have bx15 := hIm11.ra (c := 44) (len := 10) (k := (a0).toNat) rfl (by omega)
    rw [← ex15] at bx15
    have qx15 : x15 = F44 (a0).toNat := by rw [← fm11_44]; exact ex15
    clear ex15
    have hL0 := qx15.trans hQ2.symm
    refine zw_9 (L' := [(2, 52), (0, a0), (0, a1), (0, x15), (9, 0)]) zr_32_58 (Nat.le_of_ble_eq_true rfl) rfl ?_
    refine zw_push zr_32_59 ?_
    refine zw_10 (L' := [(2, 52), (0, a0), (0, a1), (0, x15), (0, 2)]) zr_32_60 (Nat.le_of_ble_eq_true rfl) rfl ?_
    have lp62_23 : ∀ (nlp62_23 : Nat) (i17 i18 p20 p21 p22 : Int) (m19 : zM), zInv m19 → zFr W_32 m0 m19 → m19 52 0 = p20 → m19 52 1 = p21 → m19 52 2 = p22 → m19 44 = F44 → m19 53 = zPt F53 ((((a0 * 9) + (x1 % 9))).toNat) x4 → m19 54 = zPt F54 ((a0).toNat) ((x8 + 1)) → (-2147483648) ≤ i17 → i17 ≤ 2147483647 → 2 ≤ i18 → i18 ≤ 61 → (-1) ≤ p20 → p20 ≤ 9 → (-9223372036854775808) ≤ p21 → p21 ≤ 9223372036854775807 → (-9223372036854775808) ≤ p22 → p22 ≤ 9223372036854775807 → (rgm (zPt F53 ((((a0 * 9) + (x1 % 9))).toNat) x4) a0 (F54 a0.toNat + 1) (i18 - 1) i17) → (-100000 ≤ i17 ∧ i17 ≤ 100000) → (i18 ≤ a1 + 1 ∨ i18 = 2) → (p20 = g0 ∧ p21 = g1 ∧ p22 = g2) → (61 - i18).toNat < nlp62_23 → zW E (d) 32 62 [(2, 52), (0, a0), (0, a1), (0, i17), (0, i18)] [] m19 Q := by
      intro nlp62_23
      induction nlp62_23 with
      | zero =>
        intros
        exact absurd (by assumption : _ < 0) (Nat.not_lt_zero _)
      | succ nlp62_23 ihlp62_23 =>
        intro i17 i18 p20 p21 p22 m19 hIm19 hFm19 km19_52_0 km19_52_1 km19_52_2 fm19_44 fm19_53 fm19_54 li17 ui17 li18 ui18 lp20 up20 lp21 up21 lp22 up22 hv0lp62_23 hv1lp62_23 hv2lp62_23 hv3lp62_23 hmlp62_23
        refine zw_4 zr_32_62 rfl ?_
        refine zw_3 zr_32_64 rfl ?_
        refine zw_41_2 zr_32_65 ?_ ?_
        · intro h25
          refine zw_7 zr_32_101 rfl ?_
          refine zw_3 zr_32_102 rfl ?_
          refine zw_3 zr_32_103 rfl ?_
          refine zw_36 zr_32_104 ?_
          refine zw_push zr_32_105 ?_
          refine zw_C zr_32_106 (Or.inl rfl) zm_31 rfl rfl ⟨Nat.le_of_ble_eq_true rfl, Nat.le_of_ble_eq_true rfl, Nat.le_of_ble_eq_true rfl, rfl, by decide⟩ (by omega) (th_31 (d := d - 1) (by omega) hIm19 (a0 := a0) (a1 := i17) (a2 := 1) (g0 := p20) (g1 := p21) (g2 := p22)   km19_52_0 km19_52_1 km19_52_2  (by omega) (by omega) (by omega) (by omega) (by omega)) ?_
          rintro _ m26 ⟨rfl, hIm26, gm26, po0_m26, po1_m26⟩
          have hFm26 : zFr W_32 m0 m26 := hFm19.trans gm26 rfl
          have fm26_44 : m26 44 = F44 := (funext fun k => gm26 44 k rfl).trans fm19_44
          have fm26_53 : m26 53 = zPt F53 ((((a0 * 9) + (x1 % 9))).toNat) x4 := (funext fun k => gm26 53 k rfl).trans fm19_53
          have fm26_54 : m26 54 = zPt F54 ((a0).toNat) ((x8 + 1)) := (funext fun k => gm26 54 k rfl).trans fm19_54
          obtain ⟨f27, ef27⟩ : ∃ v, m26 52 0 = v := ⟨_, rfl⟩
          have bf27 := ib_52_0 hIm26
          rw [ef27] at bf27
          rw [ef27] at po0_m26
          rw [ef27] at po1_m26
          obtain ⟨f28, ef28⟩ : ∃ v, m26 52 1 = v := ⟨_, rfl⟩
          have bf28 := hIm26.fl (c := 52) (k := 1) rfl
          rw [ef28] at bf28
          rw [ef28] at po0_m26
          rw [ef28] at po1_m26
          obtain ⟨f29, ef29⟩ : ∃ v, m26 52 2 = v := ⟨_, rfl⟩
          have bf29 := hIm26.fl (c := 52) (k := 2) rfl
          rw [ef29] at bf29
          rw [ef29] at po0_m26
          rw [ef29] at po1_m26
          show zW E (d) 32 109 [(2, 52), (0, a0), (0, a1), (0, i17), (0, i18)] [] m26 Q
          refine zw_R zr_32_109 (by decide) zm_32 (v := (9, 0)) rfl ?_
          rw [← hQ]; exact ⟨rfl, hIm26, hFm26, by rw [fm26_54]; exact zY_put hp0 (by omega) (by omega), by rw [fm26_53, hQ2, hQ1], by rw [fm26_54, hQ3], by first | exact Or.inl ⟨by omega, ef27, ef28, ef29⟩ | exact Or.inr ⟨by omega, (Decidable.em (a1 < 1)).imp id (fun c => ⟨i17, (by rw [fm26_53]; have z := hv0lp62_23; rw [show i18 - 1 = a1 by omega] at z; exact z), (by rw [ef27, ef28, ef29]; have w := po0_m26; rw [hv3lp62_23.1, hv3lp62_23.2.1, hv3lp62_23.2.2] at w; exact w)⟩)⟩, by omega⟩
        · intro h35
          refine zw_3 zr_32_68 rfl ?_
          refine zw_7 zr_32_69 rfl ?_
          refine zw_46r (s := 53) zr_32_70 rfl rfl rfl rfl ?_
          refine zw_3 zr_32_73 rfl ?_
          refine zw_push zr_32_74 ?_
          refine zw_18 zr_32_76 (by omega) ?_
          refine zw_7 zr_32_77 rfl ?_
          refine zw_46r (s := 54) zr_32_78 rfl rfl rfl rfl ?_
          refine zw_3 zr_32_81 rfl ?_
          refine zw_48 (c := 54) (len := 10) zr_32_82 rfl rfl (by omega) (by omega) ?_
          intro x36 ex36
          have bx36 := ib_54 hIm19 (k := (a0).toNat) (by omega)
          rw [← ex36] at bx36
          have qx36 : x36 = (zPt F54 ((a0).toNat) ((x8 + 1))) (a0).toNat := by rw [← fm19_54]; exact ex36
          clear ex36
          refine zw_4 zr_32_83 rfl ?_
          refine zw_17 zr_32_85 (by omega) ?_
          refine zw_push zr_32_86 ?_
          refine zw_20 zr_32_88 (by omega) (by omega) (by omega) (by omega) ?_
          refine zw_16 zr_32_89 (by omega) ?_
          refine zw_48 (c := 53) (len := 90) zr_32_90 rfl rfl (by omega) (by omega) ?_
          intro x37 ex37
          have bx37 := ib_53 hIm19 (k := (((a0 * 9) + ((x36 - i18) % 9))).toNat) (by omega)
          rw [← ex37] at bx37
          have qx37 : x37 = (zPt F53 ((((a0 * 9) + (x1 % 9))).toNat) x4) (((a0 * 9) + ((x36 - i18) % 9))).toNat := by rw [← fm19_53]; exact ex37
          clear ex37
          refine zw_121 zr_32_91 (Nat.le_of_ble_eq_true rfl) (by omega) (by omega) (by omega) ?_
          intro x38 hx38a hx38b hx38c
          refine zw_9 (L' := [(2, 52), (0, a0), (0, a1), (0, x38), (0, i18)]) zr_32_94 (Nat.le_of_ble_eq_true rfl) rfl ?_
          refine zw_15 (c := 1) (L' := [(2, 52), (0, a0), (0, a1), (0, x38), (0, (i18 + 1))]) zr_32_95 rfl (by decide) (by omega) rfl ?_
          refine zw_42 zr_32_98 ?_
          exact zw_less (L := [(2, 52), (0, a0), (0, a1), (0, x38), (0, (i18 + 1))]) ⟨Or.inr rfl, Or.inr rfl, Or.inr rfl, Or.inr rfl, Or.inr rfl, trivial⟩ (ihlp62_23 (x38) ((i18 + 1)) (p20) (p21) (p22) m19 hIm19 hFm19  km19_52_0 km19_52_1 km19_52_2 fm19_44 fm19_53 fm19_54 (by omega) (by omega) (by omega) (by omega) (by omega) (by omega) (by omega) (by omega) (by omega) (by omega) (rgm_s hv0lp62_23 (qx37.trans (congrArg (zPt F53 ((((a0 * 9) + (x1 % 9))).toNat) x4) (by omega))) (by omega) (by omega)) (by omega) (by omega) (by omega) (by omega))
    exact lp62_23 _ (x15) (2) (g0) (g1) (g2) m11 hIm11 hFm11  km11_52_0 km11_52_1 km11_52_2 fm11_44 fm11_53 fm11_54 (by omega) (by omega) (by omega) (by omega) (by omega) (by omega) (by omega) (by omega) (by omega) (by omega) (rgm_1 (hL0.trans (zPt_at (by omega)).symm) (by omega)) (by omega) (by omega) (by omega) (Nat.lt_succ_self _)
  · intro h41
    refine zw_R zr_32_48 (by decide) zm_32 (v := (9, 0)) rfl ?_
    rw [← hQ]; exact ⟨rfl, hIm11, hFm11, by rw [fm11_54]; exact zY_put hp0 (by omega) (by omega), by rw [fm11_53, hQ2, hQ1], by rw [fm11_54, hQ3], by first | exact Or.inl ⟨by omega, km11_52_0, km11_52_1, km11_52_2⟩ | exact Or.inr ⟨by omega, (Decidable.em (a1 < 1)).imp id (fun c => ⟨zz, (by rw [fm11_53]; have z := zz; rw [show zz - 1 = a1 by omega] at z; exact z), (by rw [km11_52_0, km11_52_1, km11_52_2]; have w := zz; rw [zz.1, zz.2.1, zz.2.2] at w; exact w)⟩)⟩, by omega⟩

abbrev W_33 : List (Nat × Nat) := [(52, 0), (52, 1), (52, 2), (53, 1000), (54, 1000)]
set_option maxHeartbeats 8000000 in
theorem th_33 {E : zE} {d : Nat} {m0 : zM} {a0 : Int} {a1 : Int} {a2 : Int} {g0 : Int} {g1 : Int} {g2 : Int} {g3 : Int} {gY : Int} {F44 : Nat → Int} {F53 : Nat → Int} {F54 : Nat → Int} (hd : 3 ≤ d) (hI0 : zInv m0) (hg0 : m0 1 0 = g0) (hg1 : m0 52 0 = g1) (hg2 : m0 52 1 = g2) (hg3 : m0 52 2 = g3) (hG44 : m0 44 = F44) (hG53 : m0 53 = F53) (hG54 : m0 54 = F54) (ha0 : 0 ≤ a0 ∧ a0 ≤ 1023) (ha1 : 0 ≤ a1 ∧ a1 ≤ 2) (ha2 : (-2147483648) ≤ a2 ∧ a2 ≤ 2147483647) (hp0 : zY F54 0 gY) (hp1 : 0 ≤ gY ∧ gY ≤ 59) (hp2 : g1 = -1 ∨ (0 ≤ g1 ∧ g1 ≤ 9 ∧ -2000000 ≤ g2 ∧ g2 ≤ 2000000 ∧ 1 ≤ g3 ∧ g3 ≤ 10)) (hp3 : nbB F44) : zC E d 33 [(2, 52), (0, a0), (0, a1), (0, a2)] m0 (fun v m' => v = (9, 0) ∧ zInv m' ∧ zFr W_33 m0 m' ∧ (zY (m' 54) 10 gY) ∧ (zJr a0 a1 a2 (smp (zbt a0) (fun _ => 1) 10) (smp (zbt a0) F44 g0.toNat) F44 g0.toNat (g1, g2, g3, F53, F54) (m' 52 0, m' 52 1, m' 52 2, m' 53, m' 54)) ∧ ((m' 52 0) = -1 ∨ (0 ≤ (m' 52 0) ∧ (m' 52 0) ≤ 9 ∧ -2000000 ≤ (m' 52 1) ∧ (m' 52 1) ≤ 2000000 ∧ 1 ≤ (m' 52 2) ∧ (m' 52 2) ≤ 10))) := by
  have hF0 : zFr W_33 m0 m0 := zFr.rfl
  have bg0 := ib_1_0 hI0
  rw [hg0] at bg0
  have bg1 := ib_52_0 hI0
  rw [hg1] at bg1
  have bg2 := hI0.fl (c := 52) (k := 1) rfl
  rw [hg2] at bg2
  have bg3 := hI0.fl (c := 52) (k := 2) rfl
  rw [hg3] at bg3
  generalize hQ : (fun (v : zV) (m' : zM) => v = (9, 0) ∧ zInv m' ∧ zFr W_33 m0 m' ∧ (zY (m' 54) 10 gY) ∧ (zJr a0 a1 a2 (smp (zbt a0) (fun _ => 1) 10) (smp (zbt a0) F44 g0.toNat) F44 g0.toNat (g1, g2, g3, F53, F54) (m' 52 0, m' 52 1, m' 52 2, m' 53, m' 54)) ∧ ((m' 52 0) = -1 ∨ (0 ≤ (m' 52 0) ∧ (m' 52 0) ≤ 9 ∧ -2000000 ≤ (m' 52 1) ∧ (m' 52 1) ≤ 2000000 ∧ 1 ≤ (m' 52 2) ∧ (m' 52 2) ≤ 10))) = Q
  show zW E d 33 0 [(2, 52), (0, a0), (0, a1), (0, a2), (9, 0), (9, 0), (9, 0)] [] m0 Q
  refine zw_3 zr_33_0 rfl ?_
  refine zw_C zr_33_1 (Or.inr rfl) zm_29 rfl rfl ⟨Nat.le_of_ble_eq_true rfl, Nat.le_of_ble_eq_true rfl, Nat.le_of_ble_eq_true rfl, rfl, by decide⟩ (by omega) (th_29 (d := d - 1) (by omega) hI0 (a0 := a0)      (by omega) ) ?_
  rintro _ _ ⟨r1, rfl, hr1a, hr1b, rfl, po0_r1, po1_r1⟩
  show zW E (d) 33 4 [(2, 52), (0, a0), (0, a1), (0, a2), (9, 0), (9, 0), (9, 0)] [(0, r1)] m0 Q
  have hC := po0_r1
  refine zw_10 (L' := [(2, 52), (0, a0), (0, a1), (0, a2), (0, r1), (9, 0), (9, 0)]) zr_33_4 (Nat.le_of_ble_eq_true rfl) rfl ?_
  refine zw_7 zr_33_6 rfl ?_
  refine zw_46r (s := 43) zr_33_7 rfl rfl rfl rfl ?_
  refine zw_3 zr_33_10 rfl ?_
  refine zw_C zr_33_11 (Or.inl rfl) zm_30 rfl rfl ⟨Nat.le_of_ble_eq_true rfl, Nat.le_of_ble_eq_true rfl, Nat.le_of_ble_eq_true rfl, rfl, by decide⟩ (by omega) (th_30 (d := d - 1) (by omega) hI0 (a0 := a0) (g0 := g0)  (F44 := F44) hg0 hG44 (by omega) (hp3)) ?_
  rintro _ _ ⟨r4, rfl, hr4a, hr4b, rfl, po0_r4, po1_r4⟩
  show zW E (d) 33 14 [(2, 52), (0, a0), (0, a1), (0, a2), (0, r1), (9, 0), (9, 0)] [(0, r4)] m0 Q
  have hS := po0_r4
  refine zw_10 (L' := [(2, 52), (0, a0), (0, a1), (0, a2), (0, r1), (0, r4), (9, 0)]) zr_33_14 (Nat.le_of_ble_eq_true rfl) rfl ?_
  refine zw_push zr_33_16 ?_
  refine zw_10 (L' := [(2, 52), (0, a0), (0, a1), (0, a2), (0, r1), (0, r4), (0, 0)]) zr_33_17 (Nat.le_of_ble_eq_true rfl) rfl ?_
  have lp19_13 : ∀ (nlp19_13 : Nat) (i6 p8 p9 p10 : Int) (f11 : Nat → Int) (f12 : Nat → Int) (m7 : zM), zInv m7 → zFr W_33 m0 m7 → m7 1 0 = g0 → m7 52 0 = p8 → m7 52 1 = p9 → m7 52 2 = p10 → m7 44 = F44 → m7 53 = f11 → m7 54 = f12 → 0 ≤ i6 → i6 ≤ 10 → (-1) ≤ p8 → p8 ≤ 9 → (-9223372036854775808) ≤ p9 → p9 ≤ 9223372036854775807 → (-9223372036854775808) ≤ p10 → p10 ≤ 9223372036854775807 → (zY f12 i6 gY) → (zJr a0 a1 a2 r1 r4 F44 (i6).toNat (g1, g2, g3, F53, F54) (p8, p9, p10, f11, f12)) → (p8 = -1 ∨ (0 ≤ p8 ∧ p8 ≤ 9 ∧ -2000000 ≤ p9 ∧ p9 ≤ 2000000 ∧ 1 ≤ p10 ∧ p10 ≤ 10)) → (i6 ≤ g0) → (10 - i6).toNat < nlp19_13 → zW E (d) 33 19 [(2, 52), (0, a0), (0, a1), (0, a2), (0, r1), (0, r4), (0, i6)] [] m7 Q := by
    intro nlp19_13
    induction nlp19_13 with
    | zero =>
      intros
      exact absurd (by assumption : _ < 0) (Nat.not_lt_zero _)
    | succ nlp19_13 ihlp19_13 =>
      intro i6 p8 p9 p10 f11 f12 m7 hIm7 hFm7 km7_1_0 km7_52_0 km7_52_1 km7_52_2 fm7_44 fm7_53 fm7_54 li6 ui6 lp8 up8 lp9 up9 lp10 up10 hv0lp19_13 hv1lp19_13 hv2lp19_13 hv3lp19_13 hmlp19_13
      have hM := trivial
      refine zw_4 zr_33_19 rfl ?_
      refine zw_7 zr_33_21 rfl ?_
      refine zw_46r (s := 1) zr_33_22 rfl rfl rfl rfl ?_
      refine zw_46i zr_33_25 km7_1_0 rfl rfl rfl ?_
      refine zw_41_3 zr_33_28 ?_ ?_
      · intro h16
        refine zw_R zr_33_115 (by decide) zm_33 (v := (9, 0)) rfl ?_
        rw [← hQ]; exact ⟨rfl, hIm7, hFm7, by rw [fm7_54]; exact zY_mono hv0lp19_13 (by omega), by rw [km7_52_0, km7_52_1, km7_52_2]; rw [fm7_53, fm7_54, ← hC, ← hS]; have z := hv1lp19_13; rw [show i6 = g0 by omega] at z; exact z, by omega⟩
      · intro h20
        refine zw_3 zr_33_31 rfl ?_
        refine zw_4 zr_33_32 rfl ?_
        refine zw_25p zr_33_34 (by omega) (by omega) ?_
        intro x21 hx21c hx21a hx21b
        refine zw_push zr_33_35 ?_
        refine zw_21o zr_33_36 (by omega) ?_
        refine zw_40_4 zr_33_37 ?_ ?_
        · intro h22
          refine zw_3 zr_33_43 rfl ?_
          refine zw_40_4 zr_33_44 ?_ ?_
          · intro h23
            refine zw_3 zr_33_68 rfl ?_
            refine zw_push zr_33_69 ?_
            refine zw_41_4 zr_33_70 ?_ ?_
            · intro h24
              refine zw_7 zr_33_83 rfl ?_
              refine zw_4 zr_33_84 rfl ?_
              refine zw_7 zr_33_86 rfl ?_
              refine zw_46r (s := 43) zr_33_87 rfl rfl rfl rfl ?_
              refine zw_46r (s := 44) zr_33_90 rfl rfl rfl rfl ?_
              refine zw_4 zr_33_93 rfl ?_
              refine zw_48 (c := 44) (len := 10) zr_33_95 rfl rfl (by omega) (by omega) ?_
              intro x25 ex25
              have bx25 := hIm7.ra (c := 44) (len := 10) (k := (i6).toNat) rfl (by omega)
              rw [← ex25] at bx25
              have qx25 : x25 = F44 (i6).toNat := by rw [← fm7_44]; exact ex25
              clear ex25
              have hb : -100000 ≤ x25 ∧ x25 ≤ 100000 := by rw [qx25]; exact hp3 (i6).toNat (by omega)
              refine zw_4 zr_33_96 rfl ?_
              refine zw_18q (A := 100000) (B := 10) zr_33_98 (by omega) (by omega) (by decide) ?_
              intro x27 ex27 hx27a hx27b
              have hM := ex27
              refine zw_4 zr_33_99 rfl ?_
              refine zw_17 zr_33_101 (by omega) ?_
              refine zw_36 zr_33_102 ?_
              refine zw_4 zr_33_103 rfl ?_
              refine zw_36 zr_33_105 ?_
              have z29 := (smp_c (zbt a0) 10).2.2 (i6).toNat (by omega) (by omega)
              refine zw_C zr_33_106 (Or.inl rfl) zm_31 rfl rfl ⟨Nat.le_of_ble_eq_true rfl, Nat.le_of_ble_eq_true rfl, Nat.le_of_ble_eq_true rfl, rfl, by decide⟩ (by omega) (th_31 (d := d - 1) (by omega) hIm7 (a0 := i6) (a1 := (x27 - r4)) (a2 := r1) (g0 := p8) (g1 := p9) (g2 := p10)   km7_52_0 km7_52_1 km7_52_2  (by omega) (by omega) (by omega) (by omega) (by omega)) ?_
              rintro _ m30 ⟨rfl, hIm30, gm30, po0_m30, po1_m30⟩
              have hFm30 : zFr W_33 m0 m30 := hFm7.trans gm30 rfl
              have km30_1_0 : m30 1 0 = g0 := (gm30 1 0 rfl).trans km7_1_0
              have fm30_44 : m30 44 = F44 := (funext fun k => gm30 44 k rfl).trans fm7_44
              have fm30_53 : m30 53 = f11 := (funext fun k => gm30 53 k rfl).trans fm7_53
              have fm30_54 : m30 54 = f12 := (funext fun k => gm30 54 k rfl).trans fm7_54
              obtain ⟨f31, ef31⟩ : ∃ v, m30 52 0 = v := ⟨_, rfl⟩
              have bf31 := ib_52_0 hIm30
              rw [ef31] at bf31
              rw [ef31] at po0_m30
              rw [ef31] at po1_m30
              obtain ⟨f32, ef32⟩ : ∃ v, m30 52 1 = v := ⟨_, rfl⟩
              have bf32 := hIm30.fl (c := 52) (k := 1) rfl
              rw [ef32] at bf32
              rw [ef32] at po0_m30
              rw [ef32] at po1_m30
              obtain ⟨f33, ef33⟩ : ∃ v, m30 52 2 = v := ⟨_, rfl⟩
              have bf33 := hIm30.fl (c := 52) (k := 2) rfl
              rw [ef33] at bf33
              rw [ef33] at po0_m30
              rw [ef33] at po1_m30
              show zW E (d) 33 109 [(2, 52), (0, a0), (0, a1), (0, a2), (0, r1), (0, r4), (0, i6)] [] m30 Q
              refine zw_15 (c := 1) (L' := [(2, 52), (0, a0), (0, a1), (0, a2), (0, r1), (0, r4), (0, (i6 + 1))]) zr_33_109 rfl (by decide) (by omega) rfl ?_
              refine zw_42 zr_33_112 ?_
              exact zw_less (L := [(2, 52), (0, a0), (0, a1), (0, a2), (0, r1), (0, r4), (0, (i6 + 1))]) ⟨Or.inr rfl, Or.inr rfl, Or.inr rfl, Or.inr rfl, Or.inr rfl, Or.inr rfl, Or.inr rfl, trivial⟩ (ihlp19_13 ((i6 + 1)) (f31) (f32) (f33) (f11) (f12) m30 hIm30 hFm30  km30_1_0 ef31 ef32 ef33 fm30_44 fm30_53 fm30_54 (by omega) (by omega) (by omega) (by omega) (by omega) (by omega) (by omega) (by omega) (by first | assumption | exact zY_mono hv0lp19_13 (by omega)) (by first | exact zJr_s hv1lp19_13 (by omega) (Or.inl ⟨by omega, rfl⟩) | exact zJr_s hv1lp19_13 (by omega) (Or.inr (Or.inl ⟨by omega, by omega, (by rw [← qx25]; exact po0_m30), rfl⟩)) | exact zJr_s hv1lp19_13 (by omega) (Or.inr (Or.inr (Or.inl ⟨by omega, by omega, po1_m30, zz, zz⟩))) | exact zJr_s hv1lp19_13 (by omega) (Or.inr (Or.inr (Or.inr ⟨by omega, by omega, by omega, (by rw [← qx25, ← hM]; exact po0_m30), rfl⟩)))) (by omega) (by omega) (by omega))
            · intro h36
              refine zw_7 zr_33_73 rfl ?_
              refine zw_4 zr_33_74 rfl ?_
              refine zw_3 zr_33_76 rfl ?_
              refine zw_C zr_33_77 (Or.inl rfl) zm_32 rfl rfl ⟨Nat.le_of_ble_eq_true rfl, Nat.le_of_ble_eq_true rfl, Nat.le_of_ble_eq_true rfl, rfl, by decide⟩ (by omega) (th_32 (d := d - 1) (by omega) hIm7 (a0 := i6) (a1 := a2) (g0 := p8) (g1 := p9) (g2 := p10) (gY := gY) (F44 := F44) (F53 := f11) (F54 := f12) km7_52_0 km7_52_1 km7_52_2 fm7_44 fm7_53 fm7_54 (by omega) (by omega) (hv0lp19_13) (by omega) (by omega) (hp3)) ?_
              rintro _ m40 ⟨rfl, hIm40, gm40, po0_m40, po1_m40, po2_m40, po3_m40, po4_m40⟩
              have hFm40 : zFr W_33 m0 m40 := hFm7.trans gm40 rfl
              have km40_1_0 : m40 1 0 = g0 := (gm40 1 0 rfl).trans km7_1_0
              have fm40_44 : m40 44 = F44 := (funext fun k => gm40 44 k rfl).trans fm7_44
              obtain ⟨f41, fm40_53⟩ : ∃ f, m40 53 = f := ⟨_, rfl⟩
              try rw [fm40_53] at po1_m40
              try rw [fm40_53] at po3_m40
              obtain ⟨f42, fm40_54⟩ : ∃ f, m40 54 = f := ⟨_, rfl⟩
              try rw [fm40_54] at po0_m40
              try rw [fm40_54] at po2_m40
              obtain ⟨f43, ef43⟩ : ∃ v, m40 52 0 = v := ⟨_, rfl⟩
              have bf43 := ib_52_0 hIm40
              rw [ef43] at bf43
              rw [ef43] at po3_m40
              rw [ef43] at po4_m40
              obtain ⟨f44, ef44⟩ : ∃ v, m40 52 1 = v := ⟨_, rfl⟩
              have bf44 := hIm40.fl (c := 52) (k := 1) rfl
              rw [ef44] at bf44
              rw [ef44] at po3_m40
              rw [ef44] at po4_m40
              obtain ⟨f45, ef45⟩ : ∃ v, m40 52 2 = v := ⟨_, rfl⟩
              have bf45 := hIm40.fl (c := 52) (k := 2) rfl
              rw [ef45] at bf45
              rw [ef45] at po3_m40
              rw [ef45] at po4_m40
              show zW E (d) 33 80 [(2, 52), (0, a0), (0, a1), (0, a2), (0, r1), (0, r4), (0, i6)] [] m40 Q
              refine zw_42 zr_33_80 ?_
              refine zw_15 (c := 1) (L' := [(2, 52), (0, a0), (0, a1), (0, a2), (0, r1), (0, r4), (0, (i6 + 1))]) zr_33_109 rfl (by decide) (by omega) rfl ?_
              refine zw_42 zr_33_112 ?_
              exact zw_less (L := [(2, 52), (0, a0), (0, a1), (0, a2), (0, r1), (0, r4), (0, (i6 + 1))]) ⟨Or.inr rfl, Or.inr rfl, Or.inr rfl, Or.inr rfl, Or.inr rfl, Or.inr rfl, Or.inr rfl, trivial⟩ (ihlp19_13 ((i6 + 1)) (f43) (f44) (f45) (f41) (f42) m40 hIm40 hFm40  km40_1_0 ef43 ef44 ef45 fm40_44 fm40_53 fm40_54 (by omega) (by omega) (by omega) (by omega) (by omega) (by omega) (by omega) (by omega) (by first | assumption | exact zY_mono hv0lp19_13 (by omega)) (by first | exact zJr_s hv1lp19_13 (by omega) (Or.inl ⟨by omega, rfl⟩) | exact zJr_s hv1lp19_13 (by omega) (Or.inr (Or.inl ⟨by omega, by omega, (by rw [← qzz]; exact po0_m40), rfl⟩)) | exact zJr_s hv1lp19_13 (by omega) (Or.inr (Or.inr (Or.inl ⟨by omega, by omega, po1_m40, po2_m40, po3_m40⟩))) | exact zJr_s hv1lp19_13 (by omega) (Or.inr (Or.inr (Or.inr ⟨by omega, by omega, by omega, (by rw [← qzz, ← hM]; exact po0_m40), rfl⟩)))) (by omega) (by omega) (by omega))
          · intro h48
            refine zw_7 zr_33_47 rfl ?_
            refine zw_4 zr_33_48 rfl ?_
            refine zw_7 zr_33_50 rfl ?_
            refine zw_46r (s := 43) zr_33_51 rfl rfl rfl rfl ?_
            refine zw_46r (s := 44) zr_33_54 rfl rfl rfl rfl ?_
            refine zw_4 zr_33_57 rfl ?_
            refine zw_48 (c := 44) (len := 10) zr_33_59 rfl rfl (by omega) (by omega) ?_
            intro x49 ex49
            have bx49 := hIm7.ra (c := 44) (len := 10) (k := (i6).toNat) rfl (by omega)
            rw [← ex49] at bx49
            have qx49 : x49 = F44 (i6).toNat := by rw [← fm7_44]; exact ex49
            clear ex49
            have hb : -100000 ≤ x49 ∧ x49 ≤ 100000 := by rw [qx49]; exact hp3 (i6).toNat (by omega)
            refine zw_36 zr_33_60 ?_
            refine zw_push zr_33_61 ?_
            refine zw_C zr_33_62 (Or.inl rfl) zm_31 rfl rfl ⟨Nat.le_of_ble_eq_true rfl, Nat.le_of_ble_eq_true rfl, Nat.le_of_ble_eq_true rfl, rfl, by decide⟩ (by omega) (th_31 (d := d - 1) (by omega) hIm7 (a0 := i6) (a1 := x49) (a2 := 1) (g0 := p8) (g1 := p9) (g2 := p10)   km7_52_0 km7_52_1 km7_52_2  (by omega) (by omega) (by omega) (by omega) (by omega)) ?_
            rintro _ m51 ⟨rfl, hIm51, gm51, po0_m51, po1_m51⟩
            have hFm51 : zFr W_33 m0 m51 := hFm7.trans gm51 rfl
            have km51_1_0 : m51 1 0 = g0 := (gm51 1 0 rfl).trans km7_1_0
            have fm51_44 : m51 44 = F44 := (funext fun k => gm51 44 k rfl).trans fm7_44
            have fm51_53 : m51 53 = f11 := (funext fun k => gm51 53 k rfl).trans fm7_53
            have fm51_54 : m51 54 = f12 := (funext fun k => gm51 54 k rfl).trans fm7_54
            obtain ⟨f52, ef52⟩ : ∃ v, m51 52 0 = v := ⟨_, rfl⟩
            have bf52 := ib_52_0 hIm51
            rw [ef52] at bf52
            rw [ef52] at po0_m51
            rw [ef52] at po1_m51
            obtain ⟨f53, ef53⟩ : ∃ v, m51 52 1 = v := ⟨_, rfl⟩
            have bf53 := hIm51.fl (c := 52) (k := 1) rfl
            rw [ef53] at bf53
            rw [ef53] at po0_m51
            rw [ef53] at po1_m51
            obtain ⟨f54, ef54⟩ : ∃ v, m51 52 2 = v := ⟨_, rfl⟩
            have bf54 := hIm51.fl (c := 52) (k := 2) rfl
            rw [ef54] at bf54
            rw [ef54] at po0_m51
            rw [ef54] at po1_m51
            show zW E (d) 33 65 [(2, 52), (0, a0), (0, a1), (0, a2), (0, r1), (0, r4), (0, i6)] [] m51 Q
            refine zw_42 zr_33_65 ?_
            refine zw_15 (c := 1) (L' := [(2, 52), (0, a0), (0, a1), (0, a2), (0, r1), (0, r4), (0, (i6 + 1))]) zr_33_109 rfl (by decide) (by omega) rfl ?_
            refine zw_42 zr_33_112 ?_
            exact zw_less (L := [(2, 52), (0, a0), (0, a1), (0, a2), (0, r1), (0, r4), (0, (i6 + 1))]) ⟨Or.inr rfl, Or.inr rfl, Or.inr rfl, Or.inr rfl, Or.inr rfl, Or.inr rfl, Or.inr rfl, trivial⟩ (ihlp19_13 ((i6 + 1)) (f52) (f53) (f54) (f11) (f12) m51 hIm51 hFm51  km51_1_0 ef52 ef53 ef54 fm51_44 fm51_53 fm51_54 (by omega) (by omega) (by omega) (by omega) (by omega) (by omega) (by omega) (by omega) (by first | assumption | exact zY_mono hv0lp19_13 (by omega)) (by first | exact zJr_s hv1lp19_13 (by omega) (Or.inl ⟨by omega, rfl⟩) | exact zJr_s hv1lp19_13 (by omega) (Or.inr (Or.inl ⟨by omega, by omega, (by rw [← qx49]; exact po0_m51), rfl⟩)) | exact zJr_s hv1lp19_13 (by omega) (Or.inr (Or.inr (Or.inl ⟨by omega, by omega, po1_m51, zz, zz⟩))) | exact zJr_s hv1lp19_13 (by omega) (Or.inr (Or.inr (Or.inr ⟨by omega, by omega, by omega, (by rw [← qx49, ← hM]; exact po0_m51), rfl⟩)))) (by omega) (by omega) (by omega))
        · intro h57
          refine zw_42 zr_33_40 ?_
          refine zw_15 (c := 1) (L' := [(2, 52), (0, a0), (0, a1), (0, a2), (0, r1), (0, r4), (0, (i6 + 1))]) zr_33_109 rfl (by decide) (by omega) rfl ?_
          refine zw_42 zr_33_112 ?_
          exact zw_less (L := [(2, 52), (0, a0), (0, a1), (0, a2), (0, r1), (0, r4), (0, (i6 + 1))]) ⟨Or.inr rfl, Or.inr rfl, Or.inr rfl, Or.inr rfl, Or.inr rfl, Or.inr rfl, Or.inr rfl, trivial⟩ (ihlp19_13 ((i6 + 1)) (p8) (p9) (p10) (f11) (f12) m7 hIm7 hFm7  km7_1_0 km7_52_0 km7_52_1 km7_52_2 fm7_44 fm7_53 fm7_54 (by omega) (by omega) (by omega) (by omega) (by omega) (by omega) (by omega) (by omega) (by first | assumption | exact zY_mono hv0lp19_13 (by omega)) (by first | exact zJr_s hv1lp19_13 (by omega) (Or.inl ⟨by omega, rfl⟩) | exact zJr_s hv1lp19_13 (by omega) (Or.inr (Or.inl ⟨by omega, by omega, (by rw [← qzz]; exact zz), rfl⟩)) | exact zJr_s hv1lp19_13 (by omega) (Or.inr (Or.inr (Or.inl ⟨by omega, by omega, zz, zz, zz⟩))) | exact zJr_s hv1lp19_13 (by omega) (Or.inr (Or.inr (Or.inr ⟨by omega, by omega, by omega, (by rw [← qzz, ← hM]; exact zz), rfl⟩)))) (by omega) (by omega) (by omega))
  exact lp19_13 _ (0) (g1) (g2) (g3) (F53) (F54) m0 hI0 hF0  hg0 hg1 hg2 hg3 hG44 hG53 hG54 (by omega) (by omega) (by omega) (by omega) (by omega) (by omega) (by omega) (by omega) (hp0) (zJr_0) (by omega) (by omega) (Nat.lt_succ_self _)

abbrev W_34 : List (Nat × Nat) := [(43, 5), (44, 1000), (45, 1), (45, 5), (45, 6), (45, 7), (45, 8), (45, 9), (46, 1000), (47, 1000), (48, 1000), (49, 1000), (50, 1000), (51, 1000), (52, 0), (52, 1), (52, 2), (53, 1000), (54, 1000)]
set_option maxHeartbeats 8000000 in
theorem th_34 {E : zE} {d : Nat} {m0 : zM} {a0 : Int} {a1 : Int} {a2 : Int} {g0 : Int} {g1 : Int} {g2 : Int} {F5 : Nat → Int} {F6 : Nat → Int} {F7 : Nat → Int} {F8 : Nat → Int} {F10 : Nat → Int} {F11 : Nat → Int} {F44 : Nat → Int} {F48 : Nat → Int} {F50 : Nat → Int} {F51 : Nat → Int} {F9 : Nat → Int} {F53 : Nat → Int} {F54 : Nat → Int} (hd : 95 ≤ d) (hI0 : zInv m0) (hg0 : m0 1 0 = g0) (hg1 : m0 1 1 = g1) (hg2 : m0 1 2 = g2) (hG5 : m0 5 = F5) (hG6 : m0 6 = F6) (hG7 : m0 7 = F7) (hG8 : m0 8 = F8) (hG10 : m0 10 = F10) (hG11 : m0 11 = F11) (hG44 : m0 44 = F44) (hG48 : m0 48 = F48) (hG50 : m0 50 = F50) (hG51 : m0 51 = F51) (hG9 : m0 9 = F9) (hG53 : m0 53 = F53) (hG54 : m0 54 = F54) (ha0 : 0 ≤ a0 ∧ a0 ≤ 3) (ha1 : 0 ≤ a1 ∧ a1 ≤ 2) (ha2 : (-2147483648) ≤ a2 ∧ a2 ≤ 2147483647) (hp0 : srt F5 g1.toNat) (hp1 : zPl F6 F7 g1 g0) (hp2 : a1 = 0 ∨ (a1 = 1 ∧ 1 ≤ a2 ∧ a2 ≤ 9) ∨ a1 = 2) : zC E d 34 [(2, 52), (0, a0), (0, a1), (0, a2)] m0 (fun v m' => v = (9, 0) ∧ zInv m' ∧ zFr W_34 m0 m' ∧ (bBe a1 a2 g0.toNat (mHm F5 F6 F7 g1) (nHm (chc F11 F10 a0) F6 F7 F8 F5 (zbt g2) (F9 a0.toNat) g1) 100 (m' 52 0) (m' 52 1) (m' 52 2)) ∧ ((m' 52 0) = -1 ∨ (0 ≤ (m' 52 0) ∧ (m' 52 0) ≤ 9 ∧ -2000000 ≤ (m' 52 1) ∧ (m' 52 1) ≤ 2000000 ∧ 1 ≤ (m' 52 2) ∧ (m' 52 2) ≤ 10))) := by
  have hF0 : zFr W_34 m0 m0 := zFr.rfl
  have bg0 := ib_1_0 hI0
  rw [hg0] at bg0
  have bg1 := ib_1_1 hI0
  rw [hg1] at bg1
  have bg2 := ib_1_2 hI0
  rw [hg2] at bg2
  generalize hQ : (fun (v : zV) (m' : zM) => v = (9, 0) ∧ zInv m' ∧ zFr W_34 m0 m' ∧ (bBe a1 a2 g0.toNat (mHm F5 F6 F7 g1) (nHm (chc F11 F10 a0) F6 F7 F8 F5 (zbt g2) (F9 a0.toNat) g1) 100 (m' 52 0) (m' 52 1) (m' 52 2)) ∧ ((m' 52 0) = -1 ∨ (0 ≤ (m' 52 0) ∧ (m' 52 0) ≤ 9 ∧ -2000000 ≤ (m' 52 1) ∧ (m' 52 1) ≤ 2000000 ∧ 1 ≤ (m' 52 2) ∧ (m' 52 2) ≤ 10))) = Q
  show zW E d 34 0 [(2, 52), (0, a0), (0, a1), (0, a2), (9, 0), (9, 0)] [] m0 Q
  refine zw_7 zr_34_0 rfl ?_
  refine zw_push zr_34_1 ?_
  refine zw_47 (c := 52) zr_34_2 rfl ⟨rfl, by decide, rfl⟩ ?_
  intro m1 em1
  have hIm1 : zInv m1 := by rw [em1]; exact hI0.bd (r := 52) (k := 0) (lo := (-1)) (hi := 9) rfl (by omega) (by decide) (by decide) (by decide)
  have hFm1 : zFr W_34 m0 m1 := by rw [em1]; exact hF0.up rfl
  have km1_1_0 : m1 1 0 = g0 := by rw [em1, zUp_ne (by omega)]; exact hg0
  have km1_1_1 : m1 1 1 = g1 := by rw [em1, zUp_ne (by omega)]; exact hg1
  have km1_1_2 : m1 1 2 = g2 := by rw [em1, zUp_ne (by omega)]; exact hg2
  have km1_52_0 : m1 52 0 = (-1) := by rw [em1]; exact zUp_eq _ _ _ _
  have fm1_5 : m1 5 = F5 := by rw [em1, zUp_fn (by decide)]; exact hG5
  have fm1_6 : m1 6 = F6 := by rw [em1, zUp_fn (by decide)]; exact hG6
  have fm1_7 : m1 7 = F7 := by rw [em1, zUp_fn (by decide)]; exact hG7
  have fm1_8 : m1 8 = F8 := by rw [em1, zUp_fn (by decide)]; exact hG8
  have fm1_10 : m1 10 = F10 := by rw [em1, zUp_fn (by decide)]; exact hG10
  have fm1_11 : m1 11 = F11 := by rw [em1, zUp_fn (by decide)]; exact hG11
  have fm1_44 : m1 44 = F44 := by rw [em1, zUp_fn (by decide)]; exact hG44
  have fm1_48 : m1 48 = F48 := by rw [em1, zUp_fn (by decide)]; exact hG48
  have fm1_50 : m1 50 = F50 := by rw [em1, zUp_fn (by decide)]; exact hG50
  have fm1_51 : m1 51 = F51 := by rw [em1, zUp_fn (by decide)]; exact hG51
  have fm1_9 : m1 9 = F9 := by rw [em1, zUp_fn (by decide)]; exact hG9
  have fm1_53 : m1 53 = F53 := by rw [em1, zUp_fn (by decide)]; exact hG53
  have fm1_54 : m1 54 = F54 := by rw [em1, zUp_fn (by decide)]; exact hG54
  clear em1
  refine zw_7 zr_34_5 rfl ?_
  refine zw_46r (s := 54) zr_34_6 rfl rfl rfl rfl ?_
  refine zw_push zr_34_9 ?_
  refine zw_C zr_34_10 (Or.inr rfl) zm_4 rfl rfl ⟨Nat.le_of_ble_eq_true rfl, Nat.le_of_ble_eq_true rfl, Nat.le_of_ble_eq_true rfl, rfl, by decide⟩ (by omega) (th_4_54 (d := d - 1) (by omega) hIm1 (a0 := 0)   (F54 := F54)  fm1_54 (by omega) ) ?_
  rintro _ m2 ⟨rfl, hIm2, gm2, po0_m2⟩
  have hFm2 : zFr W_34 m0 m2 := hFm1.trans gm2 rfl
  have km2_1_0 : m2 1 0 = g0 := (gm2 1 0 rfl).trans km1_1_0
  have km2_1_1 : m2 1 1 = g1 := (gm2 1 1 rfl).trans km1_1_1
  have km2_1_2 : m2 1 2 = g2 := (gm2 1 2 rfl).trans km1_1_2
  have km2_52_0 : m2 52 0 = (-1) := (gm2 52 0 rfl).trans km1_52_0
  have fm2_5 : m2 5 = F5 := (funext fun k => gm2 5 k rfl).trans fm1_5
  have fm2_6 : m2 6 = F6 := (funext fun k => gm2 6 k rfl).trans fm1_6
  have fm2_7 : m2 7 = F7 := (funext fun k => gm2 7 k rfl).trans fm1_7
  have fm2_8 : m2 8 = F8 := (funext fun k => gm2 8 k rfl).trans fm1_8
  have fm2_10 : m2 10 = F10 := (funext fun k => gm2 10 k rfl).trans fm1_10
  have fm2_11 : m2 11 = F11 := (funext fun k => gm2 11 k rfl).trans fm1_11
  have fm2_44 : m2 44 = F44 := (funext fun k => gm2 44 k rfl).trans fm1_44
  have fm2_48 : m2 48 = F48 := (funext fun k => gm2 48 k rfl).trans fm1_48
  have fm2_50 : m2 50 = F50 := (funext fun k => gm2 50 k rfl).trans fm1_50
  have fm2_51 : m2 51 = F51 := (funext fun k => gm2 51 k rfl).trans fm1_51
  have fm2_9 : m2 9 = F9 := (funext fun k => gm2 9 k rfl).trans fm1_9
  have fm2_53 : m2 53 = F53 := (funext fun k => gm2 53 k rfl).trans fm1_53
  obtain ⟨f3, fm2_54⟩ : ∃ f, m2 54 = f := ⟨_, rfl⟩
  try rw [fm2_54] at po0_m2
  show zW E (d) 34 13 [(2, 52), (0, a0), (0, a1), (0, a2), (9, 0), (9, 0)] [] m2 Q
  refine zw_7 zr_34_13 rfl ?_
  refine zw_46r (s := 43) zr_34_14 rfl rfl rfl rfl ?_
  refine zw_3 zr_34_17 rfl ?_
  refine zw_C zr_34_18 (Or.inl rfl) zm_16 rfl rfl ⟨Nat.le_of_ble_eq_true rfl, Nat.le_of_ble_eq_true rfl, Nat.le_of_ble_eq_true rfl, rfl, by decide⟩ (by omega) (th_16 (d := d - 1) (by omega) hIm2 (a0 := a0)   (F9 := F9) (F10 := F10) (F11 := F11) (F44 := F44) (F48 := F48) (F50 := F50) (F51 := F51)  fm2_9 fm2_10 fm2_11 fm2_44 fm2_48 fm2_50 fm2_51 (by omega) ) ?_
  rintro _ m4 ⟨rfl, hIm4, gm4, po0_m4, po1_m4⟩
  have hFm4 : zFr W_34 m0 m4 := hFm2.trans gm4 rfl
  have km4_1_0 : m4 1 0 = g0 := (gm4 1 0 rfl).trans km2_1_0
  have km4_1_1 : m4 1 1 = g1 := (gm4 1 1 rfl).trans km2_1_1
  have km4_1_2 : m4 1 2 = g2 := (gm4 1 2 rfl).trans km2_1_2
  have km4_52_0 : m4 52 0 = (-1) := (gm4 52 0 rfl).trans km2_52_0
  have fm4_5 : m4 5 = F5 := (funext fun k => gm4 5 k rfl).trans fm2_5
  have fm4_6 : m4 6 = F6 := (funext fun k => gm4 6 k rfl).trans fm2_6
  have fm4_7 : m4 7 = F7 := (funext fun k => gm4 7 k rfl).trans fm2_7
  have fm4_8 : m4 8 = F8 := (funext fun k => gm4 8 k rfl).trans fm2_8
  have fm4_10 : m4 10 = F10 := (funext fun k => gm4 10 k rfl).trans fm2_10
  have fm4_11 : m4 11 = F11 := (funext fun k => gm4 11 k rfl).trans fm2_11
  obtain ⟨f5, fm4_44⟩ : ∃ f, m4 44 = f := ⟨_, rfl⟩
  try rw [fm4_44] at po1_m4
  obtain ⟨f6, fm4_48⟩ : ∃ f, m4 48 = f := ⟨_, rfl⟩
  try rw [fm4_48] at po0_m4
  obtain ⟨f7, fm4_50⟩ : ∃ f, m4 50 = f := ⟨_, rfl⟩
  try rw [fm4_50] at po1_m4
  obtain ⟨f8, fm4_51⟩ : ∃ f, m4 51 = f := ⟨_, rfl⟩
  try rw [fm4_51] at po1_m4
  have fm4_9 : m4 9 = F9 := (funext fun k => gm4 9 k rfl).trans fm2_9
  have fm4_53 : m4 53 = F53 := (funext fun k => gm4 53 k rfl).trans fm2_53
  have fm4_54 : m4 54 = f3 := (funext fun k => gm4 54 k rfl).trans fm2_54
  obtain ⟨f9, ef9⟩ : ∃ v, m4 45 1 = v := ⟨_, rfl⟩
  have bf9 := hIm4.fi (c := 45) (k := 1) rfl
  rw [ef9] at bf9
  rw [ef9] at po0_m4
  obtain ⟨f10, ef10⟩ : ∃ v, m4 45 8 = v := ⟨_, rfl⟩
  have bf10 := ib_45_8 hIm4
  rw [ef10] at bf10
  rw [ef10] at po0_m4
  show zW E (d) 34 21 [(2, 52), (0, a0), (0, a1), (0, a2), (9, 0), (9, 0)] [] m4 Q
  refine zw_push zr_34_21 ?_
  refine zw_10 (L' := [(2, 52), (0, a0), (0, a1), (0, a2), (0, 0), (9, 0)]) zr_34_22 (Nat.le_of_ble_eq_true rfl) rfl ?_
  refine zw_push zr_34_24 ?_
  refine zw_10 (L' := [(2, 52), (0, a0), (0, a1), (0, a2), (0, 0), (0, 0)]) zr_34_25 (Nat.le_of_ble_eq_true rfl) rfl ?_
  obtain ⟨f22, ef22⟩ : ∃ v, m4 52 1 = v := ⟨_, rfl⟩
  have bf22 := hIm4.fl (c := 52) (k := 1) rfl
  rw [ef22] at bf22
  obtain ⟨f23, ef23⟩ : ∃ v, m4 52 2 = v := ⟨_, rfl⟩
  have bf23 := hIm4.fl (c := 52) (k := 2) rfl
  rw [ef23] at bf23
  have lp27_24 : ∀ (nlp27_24 : Nat) (i11 i12 p14 p15 p16 : Int) (f17 : Nat → Int) (f18 : Nat → Int) (f19 : Nat → Int) (f20 : Nat → Int) (f21 : Nat → Int) (m13 : zM), zInv m13 → zFr W_34 m0 m13 → m13 1 0 = g0 → m13 1 1 = g1 → m13 1 2 = g2 → m13 45 1 = f9 → m13 45 8 = f10 → m13 52 0 = p14 → m13 52 1 = p15 → m13 52 2 = p16 → m13 5 = F5 → m13 6 = F6 → m13 7 = F7 → m13 8 = F8 → m13 10 = F10 → m13 11 = F11 → m13 44 = f17 → m13 48 = f6 → m13 50 = f18 → m13 51 = f19 → m13 9 = F9 → m13 53 = f20 → m13 54 = f21 → 0 ≤ i11 → i11 ≤ 1023 → 0 ≤ i12 → i12 ≤ 60 → (-1) ≤ p14 → p14 ≤ 9 → (-9223372036854775808) ≤ p15 → p15 ≤ 9223372036854775807 → (-9223372036854775808) ≤ p16 → p16 ≤ 9223372036854775807 → (zY f21 0 i12) → (zSn (pst (chc F11 F10 a0) F6 F7 F8 F5 (zbt g2)) (fun _ => 1) (F9 a0.toNat) (f17, f18, f19) i12) → (zPb (f17, f18, f19) i12) → (p14 = -1 ∨ (0 ≤ p14 ∧ p14 ≤ 9 ∧ -2000000 ≤ p15 ∧ p15 ≤ 2000000 ∧ 1 ≤ p16 ∧ p16 ≤ 10)) → (zAk a1 a2 g0 (mHm F5 F6 F7 g1) (nHm (chc F11 F10 a0) F6 F7 F8 F5 (zbt g2) (F9 a0.toNat) g1) F5 F6 F7 g1 i12 i11 p14 p15 p16 f20 f21) → (i12 ≤ g1) → (60 - i12).toNat < nlp27_24 → zW E (d) 34 27 [(2, 52), (0, a0), (0, a1), (0, a2), (0, i11), (0, i12)] [] m13 Q := by
    intro nlp27_24
    induction nlp27_24 with
    | zero =>
      intros
      exact absurd (by assumption : _ < 0) (Nat.not_lt_zero _)
    | succ nlp27_24 ihlp27_24 =>
      intro i11 i12 p14 p15 p16 f17 f18 f19 f20 f21 m13 hIm13 hFm13 km13_1_0 km13_1_1 km13_1_2 km13_45_1 km13_45_8 km13_52_0 km13_52_1 km13_52_2 fm13_5 fm13_6 fm13_7 fm13_8 fm13_10 fm13_11 fm13_44 fm13_48 fm13_50 fm13_51 fm13_9 fm13_53 fm13_54 li11 ui11 li12 ui12 lp14 up14 lp15 up15 lp16 up16 hv0lp27_24 hv1lp27_24 hv2lp27_24 hv3lp27_24 hv4lp27_24 hv5lp27_24 hmlp27_24
      refine zw_4 zr_34_27 rfl ?_
      refine zw_7 zr_34_29 rfl ?_
      refine zw_46r (s := 1) zr_34_30 rfl rfl rfl rfl ?_
      refine zw_46i zr_34_33 km13_1_1 rfl rfl rfl ?_
      refine zw_41_3 zr_34_36 ?_ ?_
      · intro h26
        refine zw_R zr_34_91 (by decide) zm_34 (v := (9, 0)) rfl ?_
        rw [← hQ]; exact ⟨rfl, hIm13, hFm13, by rw [km13_52_0, km13_52_1, km13_52_2]; exact zAk_e hv4lp27_24 (by omega), by omega⟩
      · intro h29
        refine zw_7 zr_34_39 rfl ?_
        refine zw_46r (s := 43) zr_34_40 rfl rfl rfl rfl ?_
        refine zw_4 zr_34_43 rfl ?_
        refine zw_C zr_34_45 (Or.inl rfl) zm_26 rfl rfl ⟨Nat.le_of_ble_eq_true rfl, Nat.le_of_ble_eq_true rfl, Nat.le_of_ble_eq_true rfl, rfl, by decide⟩ (by omega) (th_26 (d := d - 1) (by omega) hIm13 (a0 := i12) (g0 := f9) (g1 := f10) (g2 := g2) (gS := a0) (gN := i12) (F5 := F5) (F6 := F6) (F7 := F7) (F8 := F8) (F10 := F10) (F11 := F11) (F44 := f17) (F48 := f6) (F50 := f18) (F51 := f19) km13_45_1 km13_45_8 km13_1_2 fm13_5 fm13_6 fm13_7 fm13_8 fm13_10 fm13_11 fm13_44 fm13_48 fm13_50 fm13_51 (by omega) (by assumption) (hv2lp27_24) (by omega)) ?_
        rintro _ m34 ⟨rfl, hIm34, gm34, po0_m34, po1_m34, po2_m34⟩
        have hFm34 : zFr W_34 m0 m34 := hFm13.trans gm34 rfl
        have km34_1_0 : m34 1 0 = g0 := (gm34 1 0 rfl).trans km13_1_0
        have km34_1_1 : m34 1 1 = g1 := (gm34 1 1 rfl).trans km13_1_1
        have km34_1_2 : m34 1 2 = g2 := (gm34 1 2 rfl).trans km13_1_2
        have km34_45_1 : m34 45 1 = f9 := (gm34 45 1 rfl).trans km13_45_1
        have km34_45_8 : m34 45 8 = f10 := (gm34 45 8 rfl).trans km13_45_8
        have km34_52_0 : m34 52 0 = p14 := (gm34 52 0 rfl).trans km13_52_0
        have km34_52_1 : m34 52 1 = p15 := (gm34 52 1 rfl).trans km13_52_1
        have km34_52_2 : m34 52 2 = p16 := (gm34 52 2 rfl).trans km13_52_2
        have fm34_5 : m34 5 = F5 := (funext fun k => gm34 5 k rfl).trans fm13_5
        have fm34_6 : m34 6 = F6 := (funext fun k => gm34 6 k rfl).trans fm13_6
        have fm34_7 : m34 7 = F7 := (funext fun k => gm34 7 k rfl).trans fm13_7
        have fm34_8 : m34 8 = F8 := (funext fun k => gm34 8 k rfl).trans fm13_8
        have fm34_10 : m34 10 = F10 := (funext fun k => gm34 10 k rfl).trans fm13_10
        have fm34_11 : m34 11 = F11 := (funext fun k => gm34 11 k rfl).trans fm13_11
        obtain ⟨f35, fm34_44⟩ : ∃ f, m34 44 = f := ⟨_, rfl⟩
        try rw [fm34_44] at po0_m34
        try rw [fm34_44] at po1_m34
        have fm34_48 : m34 48 = f6 := (funext fun k => gm34 48 k rfl).trans fm13_48
        obtain ⟨f36, fm34_50⟩ : ∃ f, m34 50 = f := ⟨_, rfl⟩
        try rw [fm34_50] at po0_m34
        try rw [fm34_50] at po1_m34
        obtain ⟨f37, fm34_51⟩ : ∃ f, m34 51 = f := ⟨_, rfl⟩
        try rw [fm34_51] at po0_m34
        try rw [fm34_51] at po1_m34
        have fm34_9 : m34 9 = F9 := (funext fun k => gm34 9 k rfl).trans fm13_9
        have fm34_53 : m34 53 = f20 := (funext fun k => gm34 53 k rfl).trans fm13_53
        have fm34_54 : m34 54 = f21 := (funext fun k => gm34 54 k rfl).trans fm13_54
        obtain ⟨f38, ef38⟩ : ∃ v, m34 43 5 = v := ⟨_, rfl⟩
        have bf38 := hIm34.fi (c := 43) (k := 5) rfl
        rw [ef38] at bf38
        rw [ef38] at po0_m34
        rw [ef38] at po2_m34
        show zW E (d) 34 48 [(2, 52), (0, a0), (0, a1), (0, a2), (0, i11), (0, i12)] [] m34 Q
        refine zw_4 zr_34_48 rfl ?_
        refine zw_7 zr_34_50 rfl ?_
        refine zw_46r (s := 1) zr_34_51 rfl rfl rfl rfl ?_
        refine zw_4 zr_34_54 rfl ?_
        refine zw_C zr_34_56 (Or.inl rfl) zm_27 rfl rfl ⟨Nat.le_of_ble_eq_true rfl, Nat.le_of_ble_eq_true rfl, Nat.le_of_ble_eq_true rfl, rfl, by decide⟩ (by omega) (P := (fun v m' => zW E (d) 34 59 [(2, 52), (0, a0), (0, a1), (0, a2), (0, i11), (0, i12)] (if v.1 = 9 then [(0, i11)] else v :: [(0, i11)]) m' Q)) ?_ (fun _ _ h => h)
        generalize hQ1 : (fun v m' => zW E (d) 34 59 [(2, 52), (0, a0), (0, a1), (0, a2), (0, i11), (0, i12)] (if v.1 = 9 then [(0, i11)] else v :: [(0, i11)]) m' Q) = Q1
        show zW E (d - 1) 27 0 [(2, 1), (0, i12)] [] m34 Q1
        refine zw_push zr_27_0 ?_
        refine zw_7 zr_27_1 rfl ?_
        refine zw_46r (s := 6) zr_27_2 rfl rfl rfl rfl ?_
        refine zw_3 zr_27_5 rfl ?_
        refine zw_48 (c := 6) (len := 60) zr_27_6 rfl rfl (by omega) (by omega) ?_
        intro x39 ex39
        have bx39 := ib_6 hIm34 (k := (i12).toNat) (by omega)
        rw [← ex39] at bx39
        have qx39 : x39 = F6 (i12).toNat := by rw [← fm34_6]; exact ex39
        clear ex39
        refine zw_24p zr_27_7 (by omega) ?_
        intro x40 ex40 hx40a hx40b
        refine zw_push zr_27_8 ?_
        refine zw_7 zr_27_9 rfl ?_
        refine zw_46r (s := 7) zr_27_10 rfl rfl rfl rfl ?_
        refine zw_3 zr_27_13 rfl ?_
        refine zw_48 (c := 7) (len := 60) zr_27_14 rfl rfl (by omega) (by omega) ?_
        intro x41 ex41
        have bx41 := ib_7 hIm34 (k := (i12).toNat) (by omega)
        rw [← ex41] at bx41
        have qx41 : x41 = F7 (i12).toNat := by rw [← fm34_7]; exact ex41
        clear ex41
        refine zw_24p zr_27_15 (by omega) ?_
        intro x42 ex42 hx42a hx42b
        refine zw_22p zr_27_16 (by omega) (by omega) ?_
        intro x43 ex43 hx43a hx43b
        refine zw_R zr_27_17 (by decide) zm_27 (v := (0, x43)) rfl ?_
        rw [← hQ1]
        show zW E (d) 34 59 [(2, 52), (0, a0), (0, a1), (0, a2), (0, i11), (0, i12)] [(0, x43), (0, i11)] m34 Q
        have hPB := ex43
        refine zw_22p zr_34_59 (by omega) (by omega) ?_
        intro x45 ex45 hx45a hx45b
        have hW := ex45
        refine zw_10 (L' := [(2, 52), (0, a0), (0, a1), (0, a2), (0, x45), (0, i12)]) zr_34_60 (Nat.le_of_ble_eq_true rfl) rfl ?_
        refine zw_7 zr_34_62 rfl ?_
        refine zw_46r (s := 1) zr_34_63 rfl rfl rfl rfl ?_
        refine zw_4 zr_34_66 rfl ?_
        refine zw_C zr_34_68 (Or.inl rfl) zm_28 rfl rfl ⟨Nat.le_of_ble_eq_true rfl, Nat.le_of_ble_eq_true rfl, Nat.le_of_ble_eq_true rfl, rfl, by decide⟩ (by omega) (P := (fun v m' => zW E (d) 34 71 [(2, 52), (0, a0), (0, a1), (0, a2), (0, x45), (0, i12)] (if v.1 = 9 then [] else v :: []) m' Q)) ?_ (fun _ _ h => h)
        generalize hQ1 : (fun v m' => zW E (d) 34 71 [(2, 52), (0, a0), (0, a1), (0, a2), (0, x45), (0, i12)] (if v.1 = 9 then [] else v :: []) m' Q) = Q1
        show zW E (d - 1) 28 0 [(2, 1), (0, i12)] [] m34 Q1
        refine zw_3 zr_28_0 rfl ?_
        refine zw_push zr_28_1 ?_
        refine zw_16 zr_28_2 (by omega) ?_
        refine zw_7 zr_28_3 rfl ?_
        refine zw_46i zr_28_4 km34_1_1 rfl rfl rfl ?_
        refine zw_41_3 zr_28_7 ?_ ?_
        · intro h47
          refine zw_push zr_28_27 ?_
          refine zw_42 zr_28_28 ?_
          refine zw_R zr_28_32 (by decide) zm_28 (v := (0, 1)) (zRetB (by omega)) ?_
          rw [← hQ1]
          show zW E (d) 34 71 [(2, 52), (0, a0), (0, a1), (0, a2), (0, x45), (0, i12)] [(0, 1)] m34 Q
          refine zw_40_1 zr_34_71 ?_ ?_
          · intro h48; omega
          · intro h49
            refine zw_7 zr_34_74 rfl ?_
            refine zw_4 zr_34_75 rfl ?_
            refine zw_3 zr_34_77 rfl ?_
            refine zw_3 zr_34_78 rfl ?_
            refine zw_C zr_34_79 (Or.inl rfl) zm_33 rfl rfl ⟨Nat.le_of_ble_eq_true rfl, Nat.le_of_ble_eq_true rfl, Nat.le_of_ble_eq_true rfl, rfl, by decide⟩ (by omega) (th_33 (d := d - 1) (by omega) hIm34 (a0 := x45) (a1 := a1) (a2 := a2) (g0 := g0) (g1 := p14) (g2 := p15) (g3 := p16) (gY := i12) (F44 := f35) (F53 := f20) (F54 := f21) km34_1_0 km34_52_0 km34_52_1 km34_52_2 fm34_44 fm34_53 fm34_54 (by omega) (by omega) (by omega) (hv0lp27_24) (by omega) (by omega) (nbB_p po1_m34 (by omega))) ?_
            rintro _ m53 ⟨rfl, hIm53, gm53, po0_m53, po1_m53, po2_m53⟩
            have hFm53 : zFr W_34 m0 m53 := hFm34.trans gm53 rfl
            have km53_1_0 : m53 1 0 = g0 := (gm53 1 0 rfl).trans km34_1_0
            have km53_1_1 : m53 1 1 = g1 := (gm53 1 1 rfl).trans km34_1_1
            have km53_1_2 : m53 1 2 = g2 := (gm53 1 2 rfl).trans km34_1_2
            have km53_45_1 : m53 45 1 = f9 := (gm53 45 1 rfl).trans km34_45_1
            have km53_45_8 : m53 45 8 = f10 := (gm53 45 8 rfl).trans km34_45_8
            have km53_43_5 : m53 43 5 = f38 := (gm53 43 5 rfl).trans ef38
            have fm53_5 : m53 5 = F5 := (funext fun k => gm53 5 k rfl).trans fm34_5
            have fm53_6 : m53 6 = F6 := (funext fun k => gm53 6 k rfl).trans fm34_6
            have fm53_7 : m53 7 = F7 := (funext fun k => gm53 7 k rfl).trans fm34_7
            have fm53_8 : m53 8 = F8 := (funext fun k => gm53 8 k rfl).trans fm34_8
            have fm53_10 : m53 10 = F10 := (funext fun k => gm53 10 k rfl).trans fm34_10
            have fm53_11 : m53 11 = F11 := (funext fun k => gm53 11 k rfl).trans fm34_11
            have fm53_44 : m53 44 = f35 := (funext fun k => gm53 44 k rfl).trans fm34_44
            have fm53_48 : m53 48 = f6 := (funext fun k => gm53 48 k rfl).trans fm34_48
            have fm53_50 : m53 50 = f36 := (funext fun k => gm53 50 k rfl).trans fm34_50
            have fm53_51 : m53 51 = f37 := (funext fun k => gm53 51 k rfl).trans fm34_51
            have fm53_9 : m53 9 = F9 := (funext fun k => gm53 9 k rfl).trans fm34_9
            obtain ⟨f54, fm53_53⟩ : ∃ f, m53 53 = f := ⟨_, rfl⟩
            try rw [fm53_53] at po1_m53
            obtain ⟨f55, fm53_54⟩ : ∃ f, m53 54 = f := ⟨_, rfl⟩
            try rw [fm53_54] at po0_m53
            try rw [fm53_54] at po1_m53
            obtain ⟨f56, ef56⟩ : ∃ v, m53 52 0 = v := ⟨_, rfl⟩
            have bf56 := ib_52_0 hIm53
            rw [ef56] at bf56
            rw [ef56] at po1_m53
            rw [ef56] at po2_m53
            obtain ⟨f57, ef57⟩ : ∃ v, m53 52 1 = v := ⟨_, rfl⟩
            have bf57 := hIm53.fl (c := 52) (k := 1) rfl
            rw [ef57] at bf57
            rw [ef57] at po1_m53
            rw [ef57] at po2_m53
            obtain ⟨f58, ef58⟩ : ∃ v, m53 52 2 = v := ⟨_, rfl⟩
            have bf58 := hIm53.fl (c := 52) (k := 2) rfl
            rw [ef58] at bf58
            rw [ef58] at po1_m53
            rw [ef58] at po2_m53
            show zW E (d) 34 82 [(2, 52), (0, a0), (0, a1), (0, a2), (0, x45), (0, i12)] [] m53 Q
            refine zw_push zr_34_82 ?_
            refine zw_10 (L' := [(2, 52), (0, a0), (0, a1), (0, a2), (0, 0), (0, i12)]) zr_34_83 (Nat.le_of_ble_eq_true rfl) rfl ?_
            refine zw_15 (c := 1) (L' := [(2, 52), (0, a0), (0, a1), (0, a2), (0, 0), (0, (i12 + 1))]) zr_34_85 rfl (by decide) (by omega) rfl ?_
            refine zw_42 zr_34_88 ?_
            exact zw_less (L := [(2, 52), (0, a0), (0, a1), (0, a2), (0, 0), (0, (i12 + 1))]) ⟨Or.inr rfl, Or.inr rfl, Or.inr rfl, Or.inr rfl, Or.inr rfl, Or.inr rfl, trivial⟩ (ihlp27_24 (0) ((i12 + 1)) (f56) (f57) (f58) (f35) (f36) (f37) (f54) (f55) m53 hIm53 hFm53  km53_1_0 km53_1_1 km53_1_2 km53_45_1 km53_45_8 ef56 ef57 ef58 fm53_5 fm53_6 fm53_7 fm53_8 fm53_10 fm53_11 fm53_44 fm53_48 fm53_50 fm53_51 fm53_9 fm53_53 fm53_54 (by omega) (by omega) (by omega) (by omega) (by omega) (by omega) (by omega) (by omega) (by omega) (by omega) (by first | exact zY_next hv0lp27_24 | exact zY_next (by assumption)) ((zSn_y hv1lp27_24 po0_m34 (by rfl) (by omega))) (po1_m34) (by omega) (by first | exact zAk_n hv4lp27_24 hW hPB qx39 qx41 (by assumption) (by assumption) (by omega) (by omega) | exact zAk_y hv4lp27_24 hW hPB qx39 qx41 (by assumption) (by assumption) (by omega) (by omega) hp0 (fun j hj => by have z5 := ib_5 hI0 (k := j) (by omega); have z6 := ib_6 hI0 (k := j) (by omega); have z7 := ib_7 hI0 (k := j) (by omega); rw [hG5] at z5; rw [hG6] at z6; rw [hG7] at z7; omega) (fun j hj => by have z := hp1 j (by omega) hj; omega) (by omega) hp2 (zSn_y hv1lp27_24 po0_m34 (by rfl) (by omega)) rfl rfl rfl po1_m53) (by omega) (by omega))
        · intro h63
          refine zw_7 zr_28_10 rfl ?_
          refine zw_46r (s := 5) zr_28_11 rfl rfl rfl rfl ?_
          refine zw_3 zr_28_14 rfl ?_
          refine zw_push zr_28_15 ?_
          refine zw_16 zr_28_16 (by omega) ?_
          refine zw_48 (c := 5) (len := 60) zr_28_17 rfl rfl (by omega) (by omega) ?_
          intro x64 ex64
          have bx64 := ib_5 hIm34 (k := ((i12 + 1)).toNat) (by omega)
          rw [← ex64] at bx64
          have qx64 : x64 = F5 ((i12 + 1)).toNat := by rw [← fm34_5]; exact ex64
          clear ex64
          refine zw_7 zr_28_18 rfl ?_
          refine zw_46r (s := 5) zr_28_19 rfl rfl rfl rfl ?_
          refine zw_3 zr_28_22 rfl ?_
          refine zw_48 (c := 5) (len := 60) zr_28_23 rfl rfl (by omega) (by omega) ?_
          intro x65 ex65
          have bx65 := ib_5 hIm34 (k := (i12).toNat) (by omega)
          rw [← ex65] at bx65
          have qx65 : x65 = F5 (i12).toNat := by rw [← fm34_5]; exact ex65
          clear ex65
          refine zw_41_1 zr_28_24 ?_ ?_
          · intro h66
            refine zw_push zr_28_31 ?_
            refine zw_R zr_28_32 (by decide) zm_28 (v := (0, 0)) (zRetB (by omega)) ?_
            rw [← hQ1]
            show zW E (d) 34 71 [(2, 52), (0, a0), (0, a1), (0, a2), (0, x45), (0, i12)] [(0, 0)] m34 Q
            refine zw_40_1 zr_34_71 ?_ ?_
            · intro h67
              refine zw_15 (c := 1) (L' := [(2, 52), (0, a0), (0, a1), (0, a2), (0, x45), (0, (i12 + 1))]) zr_34_85 rfl (by decide) (by omega) rfl ?_
              refine zw_42 zr_34_88 ?_
              exact zw_less (L := [(2, 52), (0, a0), (0, a1), (0, a2), (0, x45), (0, (i12 + 1))]) ⟨Or.inr rfl, Or.inr rfl, Or.inr rfl, Or.inr rfl, Or.inr rfl, Or.inr rfl, trivial⟩ (ihlp27_24 (x45) ((i12 + 1)) (p14) (p15) (p16) (f35) (f36) (f37) (f20) (f21) m34 hIm34 hFm34  km34_1_0 km34_1_1 km34_1_2 km34_45_1 km34_45_8 km34_52_0 km34_52_1 km34_52_2 fm34_5 fm34_6 fm34_7 fm34_8 fm34_10 fm34_11 fm34_44 fm34_48 fm34_50 fm34_51 fm34_9 fm34_53 fm34_54 (by omega) (by omega) (by omega) (by omega) (by omega) (by omega) (by omega) (by omega) (by omega) (by omega) (by first | exact zY_next hv0lp27_24 | exact zY_next (by assumption)) ((zSn_y hv1lp27_24 po0_m34 (by rfl) (by omega))) (po1_m34) (by omega) (by first | exact zAk_n hv4lp27_24 hW hPB qx39 qx41 (by assumption) (by assumption) (by omega) (by omega) | exact zAk_y hv4lp27_24 hW hPB qx39 qx41 (by assumption) (by assumption) (by omega) (by omega) hp0 (fun j hj => by have z5 := ib_5 hI0 (k := j) (by omega); have z6 := ib_6 hI0 (k := j) (by omega); have z7 := ib_7 hI0 (k := j) (by omega); rw [hG5] at z5; rw [hG6] at z6; rw [hG7] at z7; omega) (fun j hj => by have z := hp1 j (by omega) hj; omega) (by omega) hp2 (zSn_y hv1lp27_24 po0_m34 (by rfl) (by omega)) rfl rfl rfl zz) (by omega) (by omega))
            · intro h72; omega
          · intro h73
            refine zw_push zr_28_27 ?_
            refine zw_42 zr_28_28 ?_
            refine zw_R zr_28_32 (by decide) zm_28 (v := (0, 1)) (zRetB (by omega)) ?_
            rw [← hQ1]
            show zW E (d) 34 71 [(2, 52), (0, a0), (0, a1), (0, a2), (0, x45), (0, i12)] [(0, 1)] m34 Q
            refine zw_40_1 zr_34_71 ?_ ?_
            · intro h74; omega
            · intro h75
              refine zw_7 zr_34_74 rfl ?_
              refine zw_4 zr_34_75 rfl ?_
              refine zw_3 zr_34_77 rfl ?_
              refine zw_3 zr_34_78 rfl ?_
              refine zw_C zr_34_79 (Or.inl rfl) zm_33 rfl rfl ⟨Nat.le_of_ble_eq_true rfl, Nat.le_of_ble_eq_true rfl, Nat.le_of_ble_eq_true rfl, rfl, by decide⟩ (by omega) (th_33 (d := d - 1) (by omega) hIm34 (a0 := x45) (a1 := a1) (a2 := a2) (g0 := g0) (g1 := p14) (g2 := p15) (g3 := p16) (gY := i12) (F44 := f35) (F53 := f20) (F54 := f21) km34_1_0 km34_52_0 km34_52_1 km34_52_2 fm34_44 fm34_53 fm34_54 (by omega) (by omega) (by omega) (hv0lp27_24) (by omega) (by omega) (nbB_p po1_m34 (by omega))) ?_
              rintro _ m79 ⟨rfl, hIm79, gm79, po0_m79, po1_m79, po2_m79⟩
              have hFm79 : zFr W_34 m0 m79 := hFm34.trans gm79 rfl
              have km79_1_0 : m79 1 0 = g0 := (gm79 1 0 rfl).trans km34_1_0
              have km79_1_1 : m79 1 1 = g1 := (gm79 1 1 rfl).trans km34_1_1
              have km79_1_2 : m79 1 2 = g2 := (gm79 1 2 rfl).trans km34_1_2
              have km79_45_1 : m79 45 1 = f9 := (gm79 45 1 rfl).trans km34_45_1
              have km79_45_8 : m79 45 8 = f10 := (gm79 45 8 rfl).trans km34_45_8
              have km79_43_5 : m79 43 5 = f38 := (gm79 43 5 rfl).trans ef38
              have fm79_5 : m79 5 = F5 := (funext fun k => gm79 5 k rfl).trans fm34_5
              have fm79_6 : m79 6 = F6 := (funext fun k => gm79 6 k rfl).trans fm34_6
              have fm79_7 : m79 7 = F7 := (funext fun k => gm79 7 k rfl).trans fm34_7
              have fm79_8 : m79 8 = F8 := (funext fun k => gm79 8 k rfl).trans fm34_8
              have fm79_10 : m79 10 = F10 := (funext fun k => gm79 10 k rfl).trans fm34_10
              have fm79_11 : m79 11 = F11 := (funext fun k => gm79 11 k rfl).trans fm34_11
              have fm79_44 : m79 44 = f35 := (funext fun k => gm79 44 k rfl).trans fm34_44
              have fm79_48 : m79 48 = f6 := (funext fun k => gm79 48 k rfl).trans fm34_48
              have fm79_50 : m79 50 = f36 := (funext fun k => gm79 50 k rfl).trans fm34_50
              have fm79_51 : m79 51 = f37 := (funext fun k => gm79 51 k rfl).trans fm34_51
              have fm79_9 : m79 9 = F9 := (funext fun k => gm79 9 k rfl).trans fm34_9
              obtain ⟨f80, fm79_53⟩ : ∃ f, m79 53 = f := ⟨_, rfl⟩
              try rw [fm79_53] at po1_m79
              obtain ⟨f81, fm79_54⟩ : ∃ f, m79 54 = f := ⟨_, rfl⟩
              try rw [fm79_54] at po0_m79
              try rw [fm79_54] at po1_m79
              obtain ⟨f82, ef82⟩ : ∃ v, m79 52 0 = v := ⟨_, rfl⟩
              have bf82 := ib_52_0 hIm79
              rw [ef82] at bf82
              rw [ef82] at po1_m79
              rw [ef82] at po2_m79
              obtain ⟨f83, ef83⟩ : ∃ v, m79 52 1 = v := ⟨_, rfl⟩
              have bf83 := hIm79.fl (c := 52) (k := 1) rfl
              rw [ef83] at bf83
              rw [ef83] at po1_m79
              rw [ef83] at po2_m79
              obtain ⟨f84, ef84⟩ : ∃ v, m79 52 2 = v := ⟨_, rfl⟩
              have bf84 := hIm79.fl (c := 52) (k := 2) rfl
              rw [ef84] at bf84
              rw [ef84] at po1_m79
              rw [ef84] at po2_m79
              show zW E (d) 34 82 [(2, 52), (0, a0), (0, a1), (0, a2), (0, x45), (0, i12)] [] m79 Q
              refine zw_push zr_34_82 ?_
              refine zw_10 (L' := [(2, 52), (0, a0), (0, a1), (0, a2), (0, 0), (0, i12)]) zr_34_83 (Nat.le_of_ble_eq_true rfl) rfl ?_
              refine zw_15 (c := 1) (L' := [(2, 52), (0, a0), (0, a1), (0, a2), (0, 0), (0, (i12 + 1))]) zr_34_85 rfl (by decide) (by omega) rfl ?_
              refine zw_42 zr_34_88 ?_
              exact zw_less (L := [(2, 52), (0, a0), (0, a1), (0, a2), (0, 0), (0, (i12 + 1))]) ⟨Or.inr rfl, Or.inr rfl, Or.inr rfl, Or.inr rfl, Or.inr rfl, Or.inr rfl, trivial⟩ (ihlp27_24 (0) ((i12 + 1)) (f82) (f83) (f84) (f35) (f36) (f37) (f80) (f81) m79 hIm79 hFm79  km79_1_0 km79_1_1 km79_1_2 km79_45_1 km79_45_8 ef82 ef83 ef84 fm79_5 fm79_6 fm79_7 fm79_8 fm79_10 fm79_11 fm79_44 fm79_48 fm79_50 fm79_51 fm79_9 fm79_53 fm79_54 (by omega) (by omega) (by omega) (by omega) (by omega) (by omega) (by omega) (by omega) (by omega) (by omega) (by first | exact zY_next hv0lp27_24 | exact zY_next (by assumption)) ((zSn_y hv1lp27_24 po0_m34 (by rfl) (by omega))) (po1_m34) (by omega) (by first | exact zAk_n hv4lp27_24 hW hPB qx39 qx41 (by assumption) (by assumption) (by omega) (by omega) | exact zAk_y hv4lp27_24 hW hPB qx39 qx41 (by assumption) (by assumption) (by omega) (by omega) hp0 (fun j hj => by have z5 := ib_5 hI0 (k := j) (by omega); have z6 := ib_6 hI0 (k := j) (by omega); have z7 := ib_7 hI0 (k := j) (by omega); rw [hG5] at z5; rw [hG6] at z6; rw [hG7] at z7; omega) (fun j hj => by have z := hp1 j (by omega) hj; omega) (by omega) hp2 (zSn_y hv1lp27_24 po0_m34 (by rfl) (by omega)) rfl rfl rfl po1_m79) (by omega) (by omega))
  exact lp27_24 _ (0) (0) ((-1)) (f22) (f23) (f5) (f7) (f8) (F53) (f3) m4 hIm4 hFm4  km4_1_0 km4_1_1 km4_1_2 ef9 ef10 km4_52_0 ef22 ef23 fm4_5 fm4_6 fm4_7 fm4_8 fm4_10 fm4_11 fm4_44 fm4_48 fm4_50 fm4_51 fm4_9 fm4_53 fm4_54 (by omega) (by omega) (by omega) (by omega) (by omega) (by omega) (by omega) (by omega) (by omega) (by omega) (zY_fil (by assumption)) (zSn_0 po1_m4 rfl) (zPb_0 po1_m4 (by have z := ib_9 hI0 (k := a0.toNat) (by omega); rw [hG9] at z; omega)) (by omega) (zAk_0 hp0 (fun j hj => by have z := ib_5 hI0 (k := j) (by omega); rw [hG5] at z; omega) (by assumption) (by omega) (by omega)) (by omega) (Nat.lt_succ_self _)

abbrev W_123 : List (Nat × Nat) := [(42, 0), (42, 1), (43, 5), (44, 1000), (45, 1), (45, 5), (45, 6), (45, 7), (45, 8), (45, 9), (46, 1000), (47, 1000), (48, 1000), (49, 1000), (50, 1000), (51, 1000), (52, 0), (52, 1), (52, 2), (53, 1000), (54, 1000)]
set_option maxHeartbeats 8000000 in
theorem th_123 {E : zE} {d : Nat} {m0 : zM} {a0 : Int} {a1 : Int} {a2 : Int} {g0 : Int} {g1 : Int} {g2 : Int} {g3 : Int} {g4 : Int} {F5 : Nat → Int} {F6 : Nat → Int} {F7 : Nat → Int} {F8 : Nat → Int} {F10 : Nat → Int} {F11 : Nat → Int} {F44 : Nat → Int} {F48 : Nat → Int} {F50 : Nat → Int} {F51 : Nat → Int} {F9 : Nat → Int} (hd : 96 ≤ d) (hI0 : zInv m0) (hg0 : m0 1 0 = g0) (hg1 : m0 1 1 = g1) (hg2 : m0 1 2 = g2) (hg3 : m0 42 0 = g3) (hg4 : m0 42 1 = g4) (hG5 : m0 5 = F5) (hG6 : m0 6 = F6) (hG7 : m0 7 = F7) (hG8 : m0 8 = F8) (hG10 : m0 10 = F10) (hG11 : m0 11 = F11) (hG44 : m0 44 = F44) (hG48 : m0 48 = F48) (hG50 : m0 50 = F50) (hG51 : m0 51 = F51) (hG9 : m0 9 = F9) (ha0 : (-2147483648) ≤ a0 ∧ a0 ≤ 2147483647) (ha1 : (-2147483648) ≤ a1 ∧ a1 ≤ 2147483647) (ha2 : (-2147483648) ≤ a2 ∧ a2 ≤ 2147483647) (hp0 : srt F5 g1.toNat) (hp1 : zPl F6 F7 g1 g0) : zC E d 123 [(2, 0), (0, a0), (0, a1), (0, a2)] m0 (fun v m' => ∃ r : Int, v = (0, r) ∧ (-2) ≤ r ∧ r ≤ 9 ∧ zInv m' ∧ zFr W_123 m0 m' ∧ ((r = -2 ∧ (a0 < 0 ∨ 3 < a0 ∨ a1 < 0 ∨ 2 < a1 ∨ (a1 = 1 ∧ (a2 < 1 ∨ 9 < a2)))) ∨ ((0 ≤ a0 ∧ a0 ≤ 3 ∧ 0 ≤ a1 ∧ a1 ≤ 2 ∧ (a1 ≠ 1 ∨ (1 ≤ a2 ∧ a2 ≤ 9))) ∧ ∃ x y, bBe a1 a2 g0.toNat (mHm F5 F6 F7 g1) (nHm (chc F11 F10 a0) F6 F7 F8 F5 (zbt g2) (F9 a0.toNat) g1) 100 r x y ∧ (a1 ≠ 2 ∨ r < 0 ∨ ((-2000000 ≤ x ∧ x ≤ 2000000 ∧ 1 ≤ y ∧ y ≤ 10) ∧ zTl x y (m' 42 0) (m' 42 1))))) ∧ ((a1 = 2 ∧ 0 ≤ r) ∨ ((m' 42 0) = g3 ∧ (m' 42 1) = g4))) := by
  have hF0 : zFr W_123 m0 m0 := zFr.rfl
  have bg0 := ib_1_0 hI0
  rw [hg0] at bg0
  have bg1 := ib_1_1 hI0
  rw [hg1] at bg1
  have bg2 := ib_1_2 hI0
  rw [hg2] at bg2
  have bg3 := hI0.fl (c := 42) (k := 0) rfl
  rw [hg3] at bg3
  have bg4 := hI0.fl (c := 42) (k := 1) rfl
  rw [hg4] at bg4
  generalize hQ : (fun (v : zV) (m' : zM) => ∃ r : Int, v = (0, r) ∧ (-2) ≤ r ∧ r ≤ 9 ∧ zInv m' ∧ zFr W_123 m0 m' ∧ ((r = -2 ∧ (a0 < 0 ∨ 3 < a0 ∨ a1 < 0 ∨ 2 < a1 ∨ (a1 = 1 ∧ (a2 < 1 ∨ 9 < a2)))) ∨ ((0 ≤ a0 ∧ a0 ≤ 3 ∧ 0 ≤ a1 ∧ a1 ≤ 2 ∧ (a1 ≠ 1 ∨ (1 ≤ a2 ∧ a2 ≤ 9))) ∧ ∃ x y, bBe a1 a2 g0.toNat (mHm F5 F6 F7 g1) (nHm (chc F11 F10 a0) F6 F7 F8 F5 (zbt g2) (F9 a0.toNat) g1) 100 r x y ∧ (a1 ≠ 2 ∨ r < 0 ∨ ((-2000000 ≤ x ∧ x ≤ 2000000 ∧ 1 ≤ y ∧ y ≤ 10) ∧ zTl x y (m' 42 0) (m' 42 1))))) ∧ ((a1 = 2 ∧ 0 ≤ r) ∨ ((m' 42 0) = g3 ∧ (m' 42 1) = g4))) = Q
  show zW E d 123 0 [(2, 0), (0, a0), (0, a1), (0, a2)] [] m0 Q
  refine zw_3 zr_123_0 rfl ?_
  refine zw_C zr_123_1 (Or.inr rfl) zm_104 rfl rfl ⟨Nat.le_of_ble_eq_true rfl, Nat.le_of_ble_eq_true rfl, Nat.le_of_ble_eq_true rfl, rfl, by decide⟩ (by omega) (P := (fun v m' => zW E (d) 123 4 [(2, 0), (0, a0), (0, a1), (0, a2)] (if v.1 = 9 then [] else v :: []) m' Q)) ?_ (fun _ _ h => h)
  generalize hQ1 : (fun v m' => zW E (d) 123 4 [(2, 0), (0, a0), (0, a1), (0, a2)] (if v.1 = 9 then [] else v :: []) m' Q) = Q1
  show zW E (d - 1) 104 0 [(0, a0)] [] m0 Q1
  refine zw_3 zr_104_0 rfl ?_
  refine zw_push zr_104_1 ?_
  refine zw_push zr_104_2 ?_
  refine zw_C zr_104_3 (Or.inr rfl) zm_100 rfl rfl ⟨Nat.le_of_ble_eq_true rfl, Nat.le_of_ble_eq_true rfl, Nat.le_of_ble_eq_true rfl, rfl, by decide⟩ (by omega) (P := (fun v m' => zW E (d - 1) 104 6 [(0, a0)] (if v.1 = 9 then [] else v :: []) m' Q1)) ?_ (fun _ _ h => h)
  generalize hQ2 : (fun v m' => zW E (d - 1) 104 6 [(0, a0)] (if v.1 = 9 then [] else v :: []) m' Q1) = Q2
  show zW E (d - 1 - 1) 100 0 [(0, a0), (0, 0), (0, 3)] [] m0 Q2
  refine zw_3 zr_100_0 rfl ?_
  refine zw_3 zr_100_1 rfl ?_
  refine zw_41_0 zr_100_2 ?_ ?_
  · intro h1
    refine zw_push zr_100_14 ?_
    refine zw_R zr_100_15 (by decide) zm_100 (v := (0, 0)) (zRetB (by omega)) ?_
    rw [← hQ2]
    show zW E (d - 1) 104 6 [(0, a0)] [(0, 0)] m0 Q1
    refine zw_R zr_104_6 (by decide) zm_104 (v := (0, 0)) (zRetB (by omega)) ?_
    rw [← hQ1]
    show zW E (d) 123 4 [(2, 0), (0, a0), (0, a1), (0, a2)] [(0, 0)] m0 Q
    refine zw_40_1 zr_123_4 ?_ ?_
    · intro h2
      refine zw_push zr_123_16 ?_
      refine zw_R zr_123_18 (by decide) zm_123 (v := (0, (-2))) rfl ?_
      rw [← hQ]; exact ⟨_, rfl, by omega, by omega, hI0, hF0, by first | exact Or.inl ⟨rfl, by omega⟩ | exact Or.inr ⟨by omega, _, _, zz, by first | exact Or.inl (by omega) | exact Or.inr (Or.inl (by omega)) | exact Or.inr (Or.inr ⟨by omega, by rw [hg3, hg4]; exact zz⟩)⟩, by first | exact Or.inr ⟨hg3, hg4⟩ | exact Or.inl (by omega)⟩
    · intro h5; omega
  · intro h6
    refine zw_3 zr_100_5 rfl ?_
    refine zw_3 zr_100_6 rfl ?_
    refine zw_41_2 zr_100_7 ?_ ?_
    · intro h7
      refine zw_push zr_100_14 ?_
      refine zw_R zr_100_15 (by decide) zm_100 (v := (0, 0)) (zRetB (by omega)) ?_
      rw [← hQ2]
      show zW E (d - 1) 104 6 [(0, a0)] [(0, 0)] m0 Q1
      refine zw_R zr_104_6 (by decide) zm_104 (v := (0, 0)) (zRetB (by omega)) ?_
      rw [← hQ1]
      show zW E (d) 123 4 [(2, 0), (0, a0), (0, a1), (0, a2)] [(0, 0)] m0 Q
      refine zw_40_1 zr_123_4 ?_ ?_
      · intro h8
        refine zw_push zr_123_16 ?_
        refine zw_R zr_123_18 (by decide) zm_123 (v := (0, (-2))) rfl ?_
        rw [← hQ]; exact ⟨_, rfl, by omega, by omega, hI0, hF0, by first | exact Or.inl ⟨rfl, by omega⟩ | exact Or.inr ⟨by omega, _, _, zz, by first | exact Or.inl (by omega) | exact Or.inr (Or.inl (by omega)) | exact Or.inr (Or.inr ⟨by omega, by rw [hg3, hg4]; exact zz⟩)⟩, by first | exact Or.inr ⟨hg3, hg4⟩ | exact Or.inl (by omega)⟩
      · intro h11; omega
    · intro h12
      refine zw_push zr_100_10 ?_
      refine zw_42 zr_100_11 ?_
      refine zw_R zr_100_15 (by decide) zm_100 (v := (0, 1)) (zRetB (by omega)) ?_
      rw [← hQ2]
      show zW E (d - 1) 104 6 [(0, a0)] [(0, 1)] m0 Q1
      refine zw_R zr_104_6 (by decide) zm_104 (v := (0, 1)) (zRetB (by omega)) ?_
      rw [← hQ1]
      show zW E (d) 123 4 [(2, 0), (0, a0), (0, a1), (0, a2)] [(0, 1)] m0 Q
      refine zw_40_1 zr_123_4 ?_ ?_
      · intro h13; omega
      · intro h14
        refine zw_3 zr_123_7 rfl ?_
        refine zw_push zr_123_8 ?_
        refine zw_push zr_123_9 ?_
        refine zw_C zr_123_10 (Or.inr rfl) zm_100 rfl rfl ⟨Nat.le_of_ble_eq_true rfl, Nat.le_of_ble_eq_true rfl, Nat.le_of_ble_eq_true rfl, rfl, by decide⟩ (by omega) (P := (fun v m' => zW E (d) 123 13 [(2, 0), (0, a0), (0, a1), (0, a2)] (if v.1 = 9 then [] else v :: []) m' Q)) ?_ (fun _ _ h => h)
        generalize hQ1 : (fun v m' => zW E (d) 123 13 [(2, 0), (0, a0), (0, a1), (0, a2)] (if v.1 = 9 then [] else v :: []) m' Q) = Q1
        show zW E (d - 1) 100 0 [(0, a1), (0, 0), (0, 2)] [] m0 Q1
        refine zw_3 zr_100_0 rfl ?_
        refine zw_3 zr_100_1 rfl ?_
        refine zw_41_0 zr_100_2 ?_ ?_
        · intro h15
          refine zw_push zr_100_14 ?_
          refine zw_R zr_100_15 (by decide) zm_100 (v := (0, 0)) (zRetB (by omega)) ?_
          rw [← hQ1]
          show zW E (d) 123 13 [(2, 0), (0, a0), (0, a1), (0, a2)] [(0, 0)] m0 Q
          refine zw_40_4 zr_123_13 ?_ ?_
          · intro h16; omega
          · intro h17
            refine zw_push zr_123_16 ?_
            refine zw_R zr_123_18 (by decide) zm_123 (v := (0, (-2))) rfl ?_
            rw [← hQ]; exact ⟨_, rfl, by omega, by omega, hI0, hF0, by first | exact Or.inl ⟨rfl, by omega⟩ | exact Or.inr ⟨by omega, _, _, zz, by first | exact Or.inl (by omega) | exact Or.inr (Or.inl (by omega)) | exact Or.inr (Or.inr ⟨by omega, by rw [hg3, hg4]; exact zz⟩)⟩, by first | exact Or.inr ⟨hg3, hg4⟩ | exact Or.inl (by omega)⟩
        · intro h20
          refine zw_3 zr_100_5 rfl ?_
          refine zw_3 zr_100_6 rfl ?_
          refine zw_41_2 zr_100_7 ?_ ?_
          · intro h21
            refine zw_push zr_100_14 ?_
            refine zw_R zr_100_15 (by decide) zm_100 (v := (0, 0)) (zRetB (by omega)) ?_
            rw [← hQ1]
            show zW E (d) 123 13 [(2, 0), (0, a0), (0, a1), (0, a2)] [(0, 0)] m0 Q
            refine zw_40_4 zr_123_13 ?_ ?_
            · intro h22; omega
            · intro h23
              refine zw_push zr_123_16 ?_
              refine zw_R zr_123_18 (by decide) zm_123 (v := (0, (-2))) rfl ?_
              rw [← hQ]; exact ⟨_, rfl, by omega, by omega, hI0, hF0, by first | exact Or.inl ⟨rfl, by omega⟩ | exact Or.inr ⟨by omega, _, _, zz, by first | exact Or.inl (by omega) | exact Or.inr (Or.inl (by omega)) | exact Or.inr (Or.inr ⟨by omega, by rw [hg3, hg4]; exact zz⟩)⟩, by first | exact Or.inr ⟨hg3, hg4⟩ | exact Or.inl (by omega)⟩
          · intro h26
            refine zw_push zr_100_10 ?_
            refine zw_42 zr_100_11 ?_
            refine zw_R zr_100_15 (by decide) zm_100 (v := (0, 1)) (zRetB (by omega)) ?_
            rw [← hQ1]
            show zW E (d) 123 13 [(2, 0), (0, a0), (0, a1), (0, a2)] [(0, 1)] m0 Q
            refine zw_40_4 zr_123_13 ?_ ?_
            · intro h27
              refine zw_3 zr_123_19 rfl ?_
              refine zw_push zr_123_20 ?_
              refine zw_41_4 zr_123_21 ?_ ?_
              · intro h28
                refine zw_7 zr_123_37 rfl ?_
                refine zw_46r (s := 52) zr_123_38 rfl rfl rfl rfl ?_
                refine zw_3 zr_123_41 rfl ?_
                refine zw_3 zr_123_42 rfl ?_
                refine zw_3 zr_123_43 rfl ?_
                refine zw_C zr_123_44 (Or.inl rfl) zm_34 rfl rfl ⟨Nat.le_of_ble_eq_true rfl, Nat.le_of_ble_eq_true rfl, Nat.le_of_ble_eq_true rfl, rfl, by decide⟩ (by omega) (th_34 (d := d - 1) (by omega) hI0 (a0 := a0) (a1 := a1) (a2 := a2) (g0 := g0) (g1 := g1) (g2 := g2)  (F5 := F5) (F6 := F6) (F7 := F7) (F8 := F8) (F10 := F10) (F11 := F11) (F44 := F44) (F48 := F48) (F50 := F50) (F51 := F51) (F9 := F9) (F53 := m0 53) (F54 := m0 54) hg0 hg1 hg2 hG5 hG6 hG7 hG8 hG10 hG11 hG44 hG48 hG50 hG51 hG9 rfl rfl (by omega) (by omega) (by omega) (hp0) (hp1) (by omega)) ?_
                rintro _ m31 ⟨rfl, hIm31, gm31, po0_m31, po1_m31⟩
                have hFm31 : zFr W_123 m0 m31 := hF0.trans gm31 rfl
                have km31_1_0 : m31 1 0 = g0 := (gm31 1 0 rfl).trans hg0
                have km31_1_1 : m31 1 1 = g1 := (gm31 1 1 rfl).trans hg1
                have km31_1_2 : m31 1 2 = g2 := (gm31 1 2 rfl).trans hg2
                have km31_42_0 : m31 42 0 = g3 := (gm31 42 0 rfl).trans hg3
                have km31_42_1 : m31 42 1 = g4 := (gm31 42 1 rfl).trans hg4
                have fm31_5 : m31 5 = F5 := (funext fun k => gm31 5 k rfl).trans hG5
                have fm31_6 : m31 6 = F6 := (funext fun k => gm31 6 k rfl).trans hG6
                have fm31_7 : m31 7 = F7 := (funext fun k => gm31 7 k rfl).trans hG7
                have fm31_8 : m31 8 = F8 := (funext fun k => gm31 8 k rfl).trans hG8
                have fm31_10 : m31 10 = F10 := (funext fun k => gm31 10 k rfl).trans hG10
                have fm31_11 : m31 11 = F11 := (funext fun k => gm31 11 k rfl).trans hG11
                obtain ⟨f32, fm31_44⟩ : ∃ f, m31 44 = f := ⟨_, rfl⟩
                obtain ⟨f33, fm31_48⟩ : ∃ f, m31 48 = f := ⟨_, rfl⟩
                obtain ⟨f34, fm31_50⟩ : ∃ f, m31 50 = f := ⟨_, rfl⟩
                obtain ⟨f35, fm31_51⟩ : ∃ f, m31 51 = f := ⟨_, rfl⟩
                have fm31_9 : m31 9 = F9 := (funext fun k => gm31 9 k rfl).trans hG9
                obtain ⟨f36, ef36⟩ : ∃ v, m31 52 0 = v := ⟨_, rfl⟩
                have bf36 := ib_52_0 hIm31
                rw [ef36] at bf36
                rw [ef36] at po0_m31
                rw [ef36] at po1_m31
                obtain ⟨f37, ef37⟩ : ∃ v, m31 52 1 = v := ⟨_, rfl⟩
                have bf37 := hIm31.fl (c := 52) (k := 1) rfl
                rw [ef37] at bf37
                rw [ef37] at po0_m31
                rw [ef37] at po1_m31
                obtain ⟨f38, ef38⟩ : ∃ v, m31 52 2 = v := ⟨_, rfl⟩
                have bf38 := hIm31.fl (c := 52) (k := 2) rfl
                rw [ef38] at bf38
                rw [ef38] at po0_m31
                rw [ef38] at po1_m31
                show zW E (d) 123 47 [(2, 0), (0, a0), (0, a1), (0, a2)] [] m31 Q
                refine zw_3 zr_123_47 rfl ?_
                refine zw_push zr_123_48 ?_
                refine zw_41_4 zr_123_49 ?_ ?_
                · intro h39
                  refine zw_7 zr_123_84 rfl ?_
                  refine zw_46r (s := 52) zr_123_85 rfl rfl rfl rfl ?_
                  refine zw_46i zr_123_88 ef36 rfl rfl rfl ?_
                  refine zw_R zr_123_91 (by decide) zm_123 (v := (0, f36)) rfl ?_
                  rw [← hQ]; exact ⟨_, rfl, by omega, by omega, hIm31, hFm31, by first | exact Or.inl ⟨rfl, by omega⟩ | exact Or.inr ⟨by omega, _, _, po0_m31, by first | exact Or.inl (by omega) | exact Or.inr (Or.inl (by omega)) | exact Or.inr (Or.inr ⟨by omega, by rw [km31_42_0, km31_42_1]; exact zz⟩)⟩, by first | exact Or.inr ⟨km31_42_0, km31_42_1⟩ | exact Or.inl (by omega)⟩
                · intro h42
                  refine zw_7 zr_123_52 rfl ?_
                  refine zw_46r (s := 52) zr_123_53 rfl rfl rfl rfl ?_
                  refine zw_46i zr_123_56 ef36 rfl rfl rfl ?_
                  refine zw_push zr_123_59 ?_
                  refine zw_41_1 zr_123_60 ?_ ?_
                  · intro h43
                    refine zw_7 zr_123_84 rfl ?_
                    refine zw_46r (s := 52) zr_123_85 rfl rfl rfl rfl ?_
                    refine zw_46i zr_123_88 ef36 rfl rfl rfl ?_
                    refine zw_R zr_123_91 (by decide) zm_123 (v := (0, f36)) rfl ?_
                    rw [← hQ]; exact ⟨_, rfl, by omega, by omega, hIm31, hFm31, by first | exact Or.inl ⟨rfl, by omega⟩ | exact Or.inr ⟨by omega, _, _, po0_m31, by first | exact Or.inl (by omega) | exact Or.inr (Or.inl (by omega)) | exact Or.inr (Or.inr ⟨by omega, by rw [km31_42_0, km31_42_1]; exact zz⟩)⟩, by first | exact Or.inr ⟨km31_42_0, km31_42_1⟩ | exact Or.inl (by omega)⟩
                  · intro h46
                    refine zw_7 zr_123_63 rfl ?_
                    refine zw_46r (s := 42) zr_123_64 rfl rfl rfl rfl ?_
                    refine zw_7 zr_123_67 rfl ?_
                    refine zw_46r (s := 52) zr_123_68 rfl rfl rfl rfl ?_
                    refine zw_46l zr_123_71 ef37 rfl rfl rfl ?_
                    refine zw_7 zr_123_74 rfl ?_
                    refine zw_46r (s := 52) zr_123_75 rfl rfl rfl rfl ?_
                    refine zw_46l zr_123_78 ef38 rfl rfl rfl ?_
                    refine zw_C zr_123_81 (Or.inl rfl) zm_38 rfl rfl ⟨Nat.le_of_ble_eq_true rfl, Nat.le_of_ble_eq_true rfl, Nat.le_of_ble_eq_true rfl, rfl, by decide⟩ (by omega) (th_38 (d := d - 1) (by omega) hIm31 (a0 := f37) (a1 := f38)      (by omega) (by omega) ) ?_
                    rintro _ m47 ⟨rfl, hIm47, gm47, po0_m47⟩
                    have hFm47 : zFr W_123 m0 m47 := hFm31.trans gm47 rfl
                    have km47_1_0 : m47 1 0 = g0 := (gm47 1 0 rfl).trans km31_1_0
                    have km47_1_1 : m47 1 1 = g1 := (gm47 1 1 rfl).trans km31_1_1
                    have km47_1_2 : m47 1 2 = g2 := (gm47 1 2 rfl).trans km31_1_2
                    have km47_52_0 : m47 52 0 = f36 := (gm47 52 0 rfl).trans ef36
                    have km47_52_1 : m47 52 1 = f37 := (gm47 52 1 rfl).trans ef37
                    have km47_52_2 : m47 52 2 = f38 := (gm47 52 2 rfl).trans ef38
                    have fm47_5 : m47 5 = F5 := (funext fun k => gm47 5 k rfl).trans fm31_5
                    have fm47_6 : m47 6 = F6 := (funext fun k => gm47 6 k rfl).trans fm31_6
                    have fm47_7 : m47 7 = F7 := (funext fun k => gm47 7 k rfl).trans fm31_7
                    have fm47_8 : m47 8 = F8 := (funext fun k => gm47 8 k rfl).trans fm31_8
                    have fm47_10 : m47 10 = F10 := (funext fun k => gm47 10 k rfl).trans fm31_10
                    have fm47_11 : m47 11 = F11 := (funext fun k => gm47 11 k rfl).trans fm31_11
                    have fm47_44 : m47 44 = f32 := (funext fun k => gm47 44 k rfl).trans fm31_44
                    have fm47_48 : m47 48 = f33 := (funext fun k => gm47 48 k rfl).trans fm31_48
                    have fm47_50 : m47 50 = f34 := (funext fun k => gm47 50 k rfl).trans fm31_50
                    have fm47_51 : m47 51 = f35 := (funext fun k => gm47 51 k rfl).trans fm31_51
                    have fm47_9 : m47 9 = F9 := (funext fun k => gm47 9 k rfl).trans fm31_9
                    obtain ⟨f48, ef48⟩ : ∃ v, m47 42 0 = v := ⟨_, rfl⟩
                    have bf48 := hIm47.fl (c := 42) (k := 0) rfl
                    rw [ef48] at bf48
                    rw [ef48] at po0_m47
                    obtain ⟨f49, ef49⟩ : ∃ v, m47 42 1 = v := ⟨_, rfl⟩
                    have bf49 := hIm47.fl (c := 42) (k := 1) rfl
                    rw [ef49] at bf49
                    rw [ef49] at po0_m47
                    show zW E (d) 123 84 [(2, 0), (0, a0), (0, a1), (0, a2)] [] m47 Q
                    refine zw_7 zr_123_84 rfl ?_
                    refine zw_46r (s := 52) zr_123_85 rfl rfl rfl rfl ?_
                    refine zw_46i zr_123_88 km47_52_0 rfl rfl rfl ?_
                    refine zw_R zr_123_91 (by decide) zm_123 (v := (0, f36)) rfl ?_
                    rw [← hQ]; exact ⟨_, rfl, by omega, by omega, hIm47, hFm47, by first | exact Or.inl ⟨rfl, by omega⟩ | exact Or.inr ⟨by omega, _, _, po0_m31, by first | exact Or.inl (by omega) | exact Or.inr (Or.inl (by omega)) | exact Or.inr (Or.inr ⟨by omega, by rw [ef48, ef49]; exact po0_m47⟩)⟩, by first | exact Or.inr ⟨ef48, ef49⟩ | exact Or.inl (by omega)⟩
              · intro h52
                refine zw_3 zr_123_24 rfl ?_
                refine zw_push zr_123_25 ?_
                refine zw_push zr_123_26 ?_
                refine zw_C zr_123_28 (Or.inr rfl) zm_100 rfl rfl ⟨Nat.le_of_ble_eq_true rfl, Nat.le_of_ble_eq_true rfl, Nat.le_of_ble_eq_true rfl, rfl, by decide⟩ (by omega) (P := (fun v m' => zW E (d) 123 31 [(2, 0), (0, a0), (0, a1), (0, a2)] (if v.1 = 9 then [] else v :: []) m' Q)) ?_ (fun _ _ h => h)
                generalize hQ1 : (fun v m' => zW E (d) 123 31 [(2, 0), (0, a0), (0, a1), (0, a2)] (if v.1 = 9 then [] else v :: []) m' Q) = Q1
                show zW E (d - 1) 100 0 [(0, a2), (0, 1), (0, 9)] [] m0 Q1
                refine zw_3 zr_100_0 rfl ?_
                refine zw_3 zr_100_1 rfl ?_
                refine zw_41_0 zr_100_2 ?_ ?_
                · intro h53
                  refine zw_push zr_100_14 ?_
                  refine zw_R zr_100_15 (by decide) zm_100 (v := (0, 0)) (zRetB (by omega)) ?_
                  rw [← hQ1]
                  show zW E (d) 123 31 [(2, 0), (0, a0), (0, a1), (0, a2)] [(0, 0)] m0 Q
                  refine zw_40_4 zr_123_31 ?_ ?_
                  · intro h54; omega
                  · intro h55
                    refine zw_push zr_123_34 ?_
                    refine zw_R zr_123_36 (by decide) zm_123 (v := (0, (-2))) rfl ?_
                    rw [← hQ]; exact ⟨_, rfl, by omega, by omega, hI0, hF0, by first | exact Or.inl ⟨rfl, by omega⟩ | exact Or.inr ⟨by omega, _, _, zz, by first | exact Or.inl (by omega) | exact Or.inr (Or.inl (by omega)) | exact Or.inr (Or.inr ⟨by omega, by rw [hg3, hg4]; exact zz⟩)⟩, by first | exact Or.inr ⟨hg3, hg4⟩ | exact Or.inl (by omega)⟩
                · intro h58
                  refine zw_3 zr_100_5 rfl ?_
                  refine zw_3 zr_100_6 rfl ?_
                  refine zw_41_2 zr_100_7 ?_ ?_
                  · intro h59
                    refine zw_push zr_100_14 ?_
                    refine zw_R zr_100_15 (by decide) zm_100 (v := (0, 0)) (zRetB (by omega)) ?_
                    rw [← hQ1]
                    show zW E (d) 123 31 [(2, 0), (0, a0), (0, a1), (0, a2)] [(0, 0)] m0 Q
                    refine zw_40_4 zr_123_31 ?_ ?_
                    · intro h60; omega
                    · intro h61
                      refine zw_push zr_123_34 ?_
                      refine zw_R zr_123_36 (by decide) zm_123 (v := (0, (-2))) rfl ?_
                      rw [← hQ]; exact ⟨_, rfl, by omega, by omega, hI0, hF0, by first | exact Or.inl ⟨rfl, by omega⟩ | exact Or.inr ⟨by omega, _, _, zz, by first | exact Or.inl (by omega) | exact Or.inr (Or.inl (by omega)) | exact Or.inr (Or.inr ⟨by omega, by rw [hg3, hg4]; exact zz⟩)⟩, by first | exact Or.inr ⟨hg3, hg4⟩ | exact Or.inl (by omega)⟩
                  · intro h64
                    refine zw_push zr_100_10 ?_
                    refine zw_42 zr_100_11 ?_
                    refine zw_R zr_100_15 (by decide) zm_100 (v := (0, 1)) (zRetB (by omega)) ?_
                    rw [← hQ1]
                    show zW E (d) 123 31 [(2, 0), (0, a0), (0, a1), (0, a2)] [(0, 1)] m0 Q
                    refine zw_40_4 zr_123_31 ?_ ?_
                    · intro h65
                      refine zw_7 zr_123_37 rfl ?_
                      refine zw_46r (s := 52) zr_123_38 rfl rfl rfl rfl ?_
                      refine zw_3 zr_123_41 rfl ?_
                      refine zw_3 zr_123_42 rfl ?_
                      refine zw_3 zr_123_43 rfl ?_
                      refine zw_C zr_123_44 (Or.inl rfl) zm_34 rfl rfl ⟨Nat.le_of_ble_eq_true rfl, Nat.le_of_ble_eq_true rfl, Nat.le_of_ble_eq_true rfl, rfl, by decide⟩ (by omega) (th_34 (d := d - 1) (by omega) hI0 (a0 := a0) (a1 := a1) (a2 := a2) (g0 := g0) (g1 := g1) (g2 := g2)  (F5 := F5) (F6 := F6) (F7 := F7) (F8 := F8) (F10 := F10) (F11 := F11) (F44 := F44) (F48 := F48) (F50 := F50) (F51 := F51) (F9 := F9) (F53 := m0 53) (F54 := m0 54) hg0 hg1 hg2 hG5 hG6 hG7 hG8 hG10 hG11 hG44 hG48 hG50 hG51 hG9 rfl rfl (by omega) (by omega) (by omega) (hp0) (hp1) (by omega)) ?_
                      rintro _ m68 ⟨rfl, hIm68, gm68, po0_m68, po1_m68⟩
                      have hFm68 : zFr W_123 m0 m68 := hF0.trans gm68 rfl
                      have km68_1_0 : m68 1 0 = g0 := (gm68 1 0 rfl).trans hg0
                      have km68_1_1 : m68 1 1 = g1 := (gm68 1 1 rfl).trans hg1
                      have km68_1_2 : m68 1 2 = g2 := (gm68 1 2 rfl).trans hg2
                      have km68_42_0 : m68 42 0 = g3 := (gm68 42 0 rfl).trans hg3
                      have km68_42_1 : m68 42 1 = g4 := (gm68 42 1 rfl).trans hg4
                      have fm68_5 : m68 5 = F5 := (funext fun k => gm68 5 k rfl).trans hG5
                      have fm68_6 : m68 6 = F6 := (funext fun k => gm68 6 k rfl).trans hG6
                      have fm68_7 : m68 7 = F7 := (funext fun k => gm68 7 k rfl).trans hG7
                      have fm68_8 : m68 8 = F8 := (funext fun k => gm68 8 k rfl).trans hG8
                      have fm68_10 : m68 10 = F10 := (funext fun k => gm68 10 k rfl).trans hG10
                      have fm68_11 : m68 11 = F11 := (funext fun k => gm68 11 k rfl).trans hG11
                      obtain ⟨f69, fm68_44⟩ : ∃ f, m68 44 = f := ⟨_, rfl⟩
                      obtain ⟨f70, fm68_48⟩ : ∃ f, m68 48 = f := ⟨_, rfl⟩
                      obtain ⟨f71, fm68_50⟩ : ∃ f, m68 50 = f := ⟨_, rfl⟩
                      obtain ⟨f72, fm68_51⟩ : ∃ f, m68 51 = f := ⟨_, rfl⟩
                      have fm68_9 : m68 9 = F9 := (funext fun k => gm68 9 k rfl).trans hG9
                      obtain ⟨f73, ef73⟩ : ∃ v, m68 52 0 = v := ⟨_, rfl⟩
                      have bf73 := ib_52_0 hIm68
                      rw [ef73] at bf73
                      rw [ef73] at po0_m68
                      rw [ef73] at po1_m68
                      obtain ⟨f74, ef74⟩ : ∃ v, m68 52 1 = v := ⟨_, rfl⟩
                      have bf74 := hIm68.fl (c := 52) (k := 1) rfl
                      rw [ef74] at bf74
                      rw [ef74] at po0_m68
                      rw [ef74] at po1_m68
                      obtain ⟨f75, ef75⟩ : ∃ v, m68 52 2 = v := ⟨_, rfl⟩
                      have bf75 := hIm68.fl (c := 52) (k := 2) rfl
                      rw [ef75] at bf75
                      rw [ef75] at po0_m68
                      rw [ef75] at po1_m68
                      show zW E (d) 123 47 [(2, 0), (0, a0), (0, a1), (0, a2)] [] m68 Q
                      refine zw_3 zr_123_47 rfl ?_
                      refine zw_push zr_123_48 ?_
                      refine zw_41_4 zr_123_49 ?_ ?_
                      · intro h76
                        refine zw_7 zr_123_84 rfl ?_
                        refine zw_46r (s := 52) zr_123_85 rfl rfl rfl rfl ?_
                        refine zw_46i zr_123_88 ef73 rfl rfl rfl ?_
                        refine zw_R zr_123_91 (by decide) zm_123 (v := (0, f73)) rfl ?_
                        rw [← hQ]; exact ⟨_, rfl, by omega, by omega, hIm68, hFm68, by first | exact Or.inl ⟨rfl, by omega⟩ | exact Or.inr ⟨by omega, _, _, po0_m68, by first | exact Or.inl (by omega) | exact Or.inr (Or.inl (by omega)) | exact Or.inr (Or.inr ⟨by omega, by rw [km68_42_0, km68_42_1]; exact zz⟩)⟩, by first | exact Or.inr ⟨km68_42_0, km68_42_1⟩ | exact Or.inl (by omega)⟩
                      · intro h79; omega
                    · intro h80; omega
            · intro h81; omega

abbrev W_193 : List (Nat × Nat) := [(69, 5), (69, 6), (69, 7), (69, 9), (69, 11), (69, 13), (69, 17), (69, 18), (69, 23), (73, 1000), (74, 1000), (75, 1000), (76, 1000), (77, 1000), (78, 1000), (82, 1000)]
set_option maxHeartbeats 8000000 in
theorem th_193 {E : zE} {d : Nat} {m0 : zM} {a0 : Int} {a1 : Int} {g0 : Int} {F70 : Nat → Int} {F76 : Nat → Int} {F77 : Nat → Int} {F78 : Nat → Int} {F82 : Nat → Int} (hd : 7 ≤ d) (hI0 : zInv m0) (hg0 : m0 70 823 = g0) (hG70 : m0 70 = F70) (hG76 : m0 76 = F76) (hG77 : m0 77 = F77) (hG78 : m0 78 = F78) (hG82 : m0 82 = F82) (ha0 : 0 ≤ a0 ∧ a0 ≤ 3) (ha1 : 0 ≤ a1 ∧ a1 ≤ 9) (hp0 : srt (fun i => F70 (90 + 6 * i)) g0.toNat) : zC E d 193 [(2, 69), (0, a0), (0, a1)] m0 (fun v m' => v = (9, 0) ∧ zInv m' ∧ zFr W_193 m0 m' ∧ (zFe ((mHm (fun i => F70 (90 + 6 * i)) (fun i => F70 (91 + 6 * i)) (fun i => F70 (92 + 6 * i)) g0) a1.toNat) ((nHm (cht F70 a0) (fun i => F70 (91 + 6 * i)) (fun i => F70 (92 + 6 * i)) (fun i => F70 (93 + 6 * i)) (fun i => F70 (90 + 6 * i)) (fun i => F70 (94 + 6 * i)) (F70 (450 + 52 * a0).toNat) g0) a1.toNat) (m' 82) (m' 69 23) 100)) := by
  have hF0 : zFr W_193 m0 m0 := zFr.rfl
  have bg0 : 0 ≤ m0 70 823 ∧ m0 70 823 ≤ 60 := ib_70_meetings hI0 (by omega)
  rw [hg0] at bg0
  generalize hQ : (fun (v : zV) (m' : zM) => v = (9, 0) ∧ zInv m' ∧ zFr W_193 m0 m' ∧ (zFe ((mHm (fun i => F70 (90 + 6 * i)) (fun i => F70 (91 + 6 * i)) (fun i => F70 (92 + 6 * i)) g0) a1.toNat) ((nHm (cht F70 a0) (fun i => F70 (91 + 6 * i)) (fun i => F70 (92 + 6 * i)) (fun i => F70 (93 + 6 * i)) (fun i => F70 (90 + 6 * i)) (fun i => F70 (94 + 6 * i)) (F70 (450 + 52 * a0).toNat) g0) a1.toNat) (m' 82) (m' 69 23) 100)) = Q
  show zW E d 193 0 [(2, 69), (0, a0), (0, a1), (9, 0)] [] m0 Q
  have e823 : F70 823 = g0 := by rw [← hG70]; exact hg0
  refine zw_7 zr_193_0 rfl ?_
  refine zw_push zr_193_1 ?_
  refine zw_47 (c := 69) zr_193_2 rfl ⟨rfl, by decide, rfl⟩ ?_
  intro m2 em2
  have hIm2 : zInv m2 := by rw [em2]; exact hI0.bd (r := 69) (k := 23) (lo := 0) (hi := 100) rfl (by omega) (by decide) (by decide) (by decide)
  have hFm2 : zFr W_193 m0 m2 := by rw [em2]; exact hF0.up rfl
  have km2_70_823 : m2 70 823 = g0 := by rw [em2, zUp_ne (by omega)]; exact hg0
  have km2_69_23 : m2 69 23 = 0 := by rw [em2]; exact zUp_eq _ _ _ _
  have fm2_70 : m2 70 = F70 := by rw [em2, zUp_fn (by decide)]; exact hG70
  have fm2_76 : m2 76 = F76 := by rw [em2, zUp_fn (by decide)]; exact hG76
  have fm2_77 : m2 77 = F77 := by rw [em2, zUp_fn (by decide)]; exact hG77
  have fm2_78 : m2 78 = F78 := by rw [em2, zUp_fn (by decide)]; exact hG78
  have fm2_82 : m2 82 = F82 := by rw [em2, zUp_fn (by decide)]; exact hG82
  clear em2
  refine zw_push zr_193_5 ?_
  refine zw_9 (L' := [(2, 69), (0, a0), (0, a1), (0, 0)]) zr_193_6 (Nat.le_of_ble_eq_true rfl) rfl ?_
  have lp7_10 : ∀ (nlp7_10 : Nat) (i3 p5 : Int) (f6 : Nat → Int) (f7 : Nat → Int) (f8 : Nat → Int) (f9 : Nat → Int) (m4 : zM), zInv m4 → zFr W_193 m0 m4 → m4 70 823 = g0 → m4 69 23 = p5 → m4 70 = F70 → m4 76 = f6 → m4 77 = f7 → m4 78 = f8 → m4 82 = f9 → 0 ≤ i3 → i3 ≤ 100 → 0 ≤ p5 → p5 ≤ 100 → (p5 ≤ i3) → (zFe ((mHm (fun i => F70 (90 + 6 * i)) (fun i => F70 (91 + 6 * i)) (fun i => F70 (92 + 6 * i)) g0) a1.toNat) ((nHm (cht F70 a0) (fun i => F70 (91 + 6 * i)) (fun i => F70 (92 + 6 * i)) (fun i => F70 (93 + 6 * i)) (fun i => F70 (90 + 6 * i)) (fun i => F70 (94 + 6 * i)) (F70 (450 + 52 * a0).toNat) g0) a1.toNat) f9 p5 i3) → (100 - i3).toNat < nlp7_10 → zW E (d) 193 7 [(2, 69), (0, a0), (0, a1), (0, i3)] [] m4 Q := by
    intro nlp7_10
    induction nlp7_10 with
    | zero =>
      intros
      exact absurd (by assumption : _ < 0) (Nat.not_lt_zero _)
    | succ nlp7_10 ihlp7_10 =>
      intro i3 p5 f6 f7 f8 f9 m4 hIm4 hFm4 km4_70_823 km4_69_23 fm4_70 fm4_76 fm4_77 fm4_78 fm4_82 li3 ui3 lp5 up5 hv0lp7_10 hv1lp7_10 hmlp7_10
      have hN := trivial
      refine zw_3 zr_193_7 rfl ?_
      refine zw_push zr_193_8 ?_
      refine zw_41_3 zr_193_10 ?_ ?_
      · intro h13
        refine zw_R zr_193_59 (by decide) zm_193 (v := (9, 0)) rfl ?_
        rw [← hQ]; exact ⟨rfl, hIm4, hFm4, by rw [fm4_82, km4_69_23]; have z := hv1lp7_10; rw [show i3 = 100 by omega] at z; exact z⟩
      · intro h15
        refine zw_7 zr_193_13 rfl ?_
        refine zw_3 zr_193_14 rfl ?_
        refine zw_3 zr_193_15 rfl ?_
        refine zw_C zr_193_16 (Or.inl rfl) zm_172 rfl rfl ⟨Nat.le_of_ble_eq_true rfl, Nat.le_of_ble_eq_true rfl, Nat.le_of_ble_eq_true rfl, rfl, by decide⟩ (by omega) (th_172 (d := d - 1) (by omega) hIm4 (a0 := a1) (a1 := i3)   (F70 := F70)  fm4_70 (by omega) (by omega) ) ?_
        rintro _ _ ⟨r16, rfl, hr16a, hr16b, rfl, po0_r16⟩
        show zW E (d) 193 19 [(2, 69), (0, a0), (0, a1), (0, i3)] [(0, r16)] m4 Q
        rw [e823] at po0_r16
        have hM := (hmv_m F70 (p := a1) (y := i3) (n := g0) (by omega)).symm.trans po0_r16.symm
        refine zw_40_1 zr_193_19 ?_ ?_
        · intro h17
          refine zw_15 (c := 1) (L' := [(2, 69), (0, a0), (0, a1), (0, (i3 + 1))]) zr_193_53 rfl (by decide) (by omega) rfl ?_
          refine zw_42 zr_193_56 ?_
          exact zw_less (L := [(2, 69), (0, a0), (0, a1), (0, (i3 + 1))]) ⟨Or.inr rfl, Or.inr rfl, Or.inr rfl, Or.inr rfl, trivial⟩ (ihlp7_10 ((i3 + 1)) (p5) (f6) (f7) (f8) (f9) m4 hIm4 hFm4  km4_70_823 km4_69_23 fm4_70 fm4_76 fm4_77 fm4_78 fm4_82 (by omega) (by omega) (by omega) (by omega) (by omega) (by first | exact zFe_n hv1lp7_10 (fun z => by have w := hM.symm.trans z; omega) (by omega) | exact zFe_y hv1lp7_10 (hM.trans (by omega)) (qzz.trans (hN a1.toNat (by omega)).1) rfl (by omega)) (by omega))
        · intro h19
          refine zw_7 zr_193_22 rfl ?_
          refine zw_3 zr_193_23 rfl ?_
          refine zw_3 zr_193_24 rfl ?_
          refine zw_C zr_193_25 (Or.inl rfl) zm_167 rfl rfl ⟨Nat.le_of_ble_eq_true rfl, Nat.le_of_ble_eq_true rfl, Nat.le_of_ble_eq_true rfl, rfl, by decide⟩ (by omega) (th_167 (d := d - 1) (by omega) hIm4 (a0 := a0) (a1 := i3) (g0 := g0)  (F70 := F70) (F76 := f6) (F77 := f7) (F78 := f8) km4_70_823 fm4_70 fm4_76 fm4_77 fm4_78 (by omega) (by omega) ) ?_
          rintro _ m20 ⟨rfl, hIm20, gm20, po0_m20⟩
          have hFm20 : zFr W_193 m0 m20 := hFm4.trans gm20 rfl
          have km20_70_823 : m20 70 823 = g0 := (gm20 70 823 rfl).trans km4_70_823
          have km20_69_23 : m20 69 23 = p5 := (gm20 69 23 rfl).trans km4_69_23
          have fm20_70 : m20 70 = F70 := (funext fun k => gm20 70 k rfl).trans fm4_70
          obtain ⟨f21, fm20_76⟩ : ∃ f, m20 76 = f := ⟨_, rfl⟩
          try rw [fm20_76] at po0_m20
          obtain ⟨f22, fm20_77⟩ : ∃ f, m20 77 = f := ⟨_, rfl⟩
          try rw [fm20_77] at po0_m20
          obtain ⟨f23, fm20_78⟩ : ∃ f, m20 78 = f := ⟨_, rfl⟩
          try rw [fm20_78] at po0_m20
          have fm20_82 : m20 82 = f9 := (funext fun k => gm20 82 k rfl).trans fm4_82
          show zW E (d) 193 28 [(2, 69), (0, a0), (0, a1), (0, i3)] [] m20 Q
          have hN : zNy (nHm (cht F70 a0) (fun i => F70 (91 + 6 * i)) (fun i => F70 (92 + 6 * i)) (fun i => F70 (93 + 6 * i)) (fun i => F70 (90 + 6 * i)) (fun i => F70 (94 + 6 * i)) (F70 (450 + 52 * a0).toNat) g0) f21 (i3).toNat := fun p hp => by have z := zGt_n po0_m20 hp0 (by omega) (fun i hi => by have z := ib_70_m1 hI0 (k := 91 + 6 * i) (by omega); rw [hG70] at z; omega) (fun i hi => by have z := ib_70_m2 hI0 (k := 92 + 6 * i) (by omega); rw [hG70] at z; omega) (fun i hi => by have z := ib_70_m0 hI0 (k := 90 + 6 * i) (by omega); rw [hG70] at z; omega) p hp; exact ⟨z.1.trans (nHm_e (by omega)).symm, z.2⟩
          refine zw_7 zr_193_28 rfl ?_
          refine zw_46r (s := 82) zr_193_29 rfl rfl rfl rfl ?_
          refine zw_7 zr_193_32 rfl ?_
          refine zw_46i zr_193_33 km20_69_23 rfl rfl rfl ?_
          refine zw_7 zr_193_36 rfl ?_
          refine zw_46r (s := 76) zr_193_37 rfl rfl rfl rfl ?_
          refine zw_3 zr_193_40 rfl ?_
          refine zw_48 (c := 76) (len := 10) zr_193_41 rfl rfl (by omega) (by omega) ?_
          intro x25 ex25
          have bx25 := hIm20.ra (c := 76) (len := 10) (k := (a1).toNat) rfl (by omega)
          rw [← ex25] at bx25
          have qx25 : x25 = f21 (a1).toNat := by rw [← fm20_76]; exact ex25
          clear ex25
          refine zw_49 (c := 82) (len := 100) zr_193_42 rfl rfl (by omega) (by omega) ?_
          intro m26 em26
          have hIm26 : zInv m26 := by rw [em26]; exact hIm20.any (by omega) rfl (by decide) (by decide)
          have hFm26 : zFr W_193 m0 m26 := by rw [em26]; exact hFm20.any rfl
          have km26_70_823 : m26 70 823 = g0 := by rw [em26, zUp_ne (by omega)]; exact km20_70_823
          have km26_69_23 : m26 69 23 = p5 := by rw [em26, zUp_ne (by omega)]; exact km20_69_23
          have fm26_70 : m26 70 = F70 := by rw [em26, zUp_fn (by decide)]; exact fm20_70
          have fm26_76 : m26 76 = f21 := by rw [em26, zUp_fn (by decide)]; exact fm20_76
          have fm26_77 : m26 77 = f22 := by rw [em26, zUp_fn (by decide)]; exact fm20_77
          have fm26_78 : m26 78 = f23 := by rw [em26, zUp_fn (by decide)]; exact fm20_78
          have fm26_82 : m26 82 = zPt f9 ((p5).toNat) x25 := by rw [em26]; exact (zUp_ff (m := m20)).trans (congrArg (fun q => zPt q ((p5).toNat) x25) fm20_82)
          clear em26
          refine zw_7 zr_193_43 rfl ?_
          refine zw_43 zr_193_44 rfl ?_
          refine zw_46i zr_193_45 km26_69_23 rfl rfl rfl ?_
          refine zw_push zr_193_48 ?_
          refine zw_16 zr_193_49 (by omega) ?_
          refine zw_47 (c := 69) zr_193_50 rfl ⟨rfl, by decide, rfl⟩ ?_
          intro m27 em27
          have hIm27 : zInv m27 := by rw [em27]; exact hIm26.bd (r := 69) (k := 23) (lo := 0) (hi := 100) rfl (by omega) (by decide) (by decide) (by decide)
          have hFm27 : zFr W_193 m0 m27 := by rw [em27]; exact hFm26.up rfl
          have km27_70_823 : m27 70 823 = g0 := by rw [em27, zUp_ne (by omega)]; exact km26_70_823
          have km27_69_23 : m27 69 23 = (p5 + 1) := by rw [em27]; exact zUp_eq _ _ _ _
          have fm27_70 : m27 70 = F70 := by rw [em27, zUp_fn (by decide)]; exact fm26_70
          have fm27_76 : m27 76 = f21 := by rw [em27, zUp_fn (by decide)]; exact fm26_76
          have fm27_77 : m27 77 = f22 := by rw [em27, zUp_fn (by decide)]; exact fm26_77
          have fm27_78 : m27 78 = f23 := by rw [em27, zUp_fn (by decide)]; exact fm26_78
          have fm27_82 : m27 82 = zPt f9 ((p5).toNat) x25 := by rw [em27, zUp_fn (by decide)]; exact fm26_82
          clear em27
          refine zw_15 (c := 1) (L' := [(2, 69), (0, a0), (0, a1), (0, (i3 + 1))]) zr_193_53 rfl (by decide) (by omega) rfl ?_
          refine zw_42 zr_193_56 ?_
          exact zw_less (L := [(2, 69), (0, a0), (0, a1), (0, (i3 + 1))]) ⟨Or.inr rfl, Or.inr rfl, Or.inr rfl, Or.inr rfl, trivial⟩ (ihlp7_10 ((i3 + 1)) ((p5 + 1)) (f21) (f22) (f23) (zPt f9 ((p5).toNat) x25) m27 hIm27 hFm27  km27_70_823 km27_69_23 fm27_70 fm27_76 fm27_77 fm27_78 fm27_82 (by omega) (by omega) (by omega) (by omega) (by omega) (by first | exact zFe_n hv1lp7_10 (fun z => by have w := hM.symm.trans z; omega) (by omega) | exact zFe_y hv1lp7_10 (hM.trans (by omega)) (qx25.trans (hN a1.toNat (by omega)).1) rfl (by omega)) (by omega))
  exact lp7_10 _ (0) (0) (F76) (F77) (F78) (F82) m2 hIm2 hFm2  km2_70_823 km2_69_23 fm2_70 fm2_76 fm2_77 fm2_78 fm2_82 (by omega) (by omega) (by omega) (by omega) (by omega) (zFe_0) (Nat.lt_succ_self _)
