set_option maxHeartbeats 8000000 in
theorem th_75 {E : zE} {d : Nat} {m0 : zM} {a0 : Int} {a1 : Int} (hd : 3 ≤ d) (hI0 : zInv m0) (ha0 : 0 ≤ a0 ∧ a0 ≤ 9) (ha1 : 0 ≤ a1 ∧ a1 ≤ 2147483646) : zC E d 75 [(2, 60), (0, a0), (0, a1)] m0 (fun v m' => ∃ r : Int, v = (0, r) ∧ (-5) ≤ r ∧ r ≤ 59 ∧ m0 = m') := by
  generalize hQ : (fun (v : zV) (m' : zM) => ∃ r : Int, v = (0, r) ∧ (-5) ≤ r ∧ r ≤ 59 ∧ m0 = m') = Q
  show zW E d 75 0 [(2, 60), (0, a0), (0, a1), (9, 0), (9, 0)] [] m0 Q
  refine zw_3 zr_75_0 rfl ?_
  refine zw_9 (L' := [(2, 60), (0, a0), (0, a1), (0, a0), (9, 0)]) zr_75_1 (Nat.le_of_ble_eq_true rfl) rfl ?_
  refine zw_push zr_75_2 ?_
  refine zw_10 (L' := [(2, 60), (0, a0), (0, a1), (0, a0), (0, 0)]) zr_75_3 (Nat.le_of_ble_eq_true rfl) rfl ?_
  have lp5_3 : ∀ (nlp5_3 : Nat) (i1 i2 : Int), 0 ≤ i1 → i1 ≤ 9 → 0 ≤ i2 → i2 ≤ 10 → (10 - i2).toNat < nlp5_3 → zW E (d) 75 5 [(2, 60), (0, a0), (0, a1), (0, i1), (0, i2)] [] m0 Q := by
    intro nlp5_3
    induction nlp5_3 with
    | zero =>
      intros
      exact absurd (by assumption : _ < 0) (Nat.not_lt_zero _)
    | succ nlp5_3 ihlp5_3 =>
      intro i1 i2 li1 ui1 li2 ui2 hmlp5_3
      refine zw_4 zr_75_5 rfl ?_
      refine zw_3 zr_75_7 rfl ?_
      refine zw_41_3 zr_75_8 ?_ ?_
      · intro h5
        refine zw_7 zr_75_30 rfl ?_
        refine zw_3 zr_75_31 rfl ?_
        refine zw_7 zr_75_32 rfl ?_
        refine zw_3 zr_75_33 rfl ?_
        refine zw_C zr_75_34 (Or.inl rfl) zm_73 rfl rfl ⟨Nat.le_of_ble_eq_true rfl, Nat.le_of_ble_eq_true rfl, Nat.le_of_ble_eq_true rfl, rfl, by decide⟩ (by omega) (th_73 (d := d - 1) (by omega) hI0 (a0 := i1)      (by omega) ) ?_
        rintro _ _ ⟨r6, rfl, hr6a, hr6b, rfl⟩
        show zW E (d) 75 37 [(2, 60), (0, a0), (0, a1), (0, i1), (0, i2)] [(0, r6), (0, i1), (2, 60)] m0 Q
        refine zw_C zr_75_37 (Or.inl rfl) zm_74 rfl rfl ⟨Nat.le_of_ble_eq_true rfl, Nat.le_of_ble_eq_true rfl, Nat.le_of_ble_eq_true rfl, rfl, by decide⟩ (by omega) (th_74 (d := d - 1) (by omega) hI0 (a0 := i1) (a1 := r6)      (by omega) (by omega) ) ?_
        rintro _ _ ⟨r7, rfl, hr7a, hr7b, rfl⟩
        show zW E (d) 75 40 [(2, 60), (0, a0), (0, a1), (0, i1), (0, i2)] [(0, r7)] m0 Q
        refine zw_R zr_75_40 (by decide) zm_75 (v := (0, r7)) rfl ?_
        rw [← hQ]; exact ⟨_, rfl, by omega, by omega, rfl⟩
      · intro h8
        refine zw_4 zr_75_11 rfl ?_
        refine zw_push zr_75_13 ?_
        refine zw_41_3 zr_75_15 ?_ ?_
        · intro h9
          refine zw_7 zr_75_30 rfl ?_
          refine zw_3 zr_75_31 rfl ?_
          refine zw_7 zr_75_32 rfl ?_
          refine zw_3 zr_75_33 rfl ?_
          refine zw_C zr_75_34 (Or.inl rfl) zm_73 rfl rfl ⟨Nat.le_of_ble_eq_true rfl, Nat.le_of_ble_eq_true rfl, Nat.le_of_ble_eq_true rfl, rfl, by decide⟩ (by omega) (th_73 (d := d - 1) (by omega) hI0 (a0 := i1)      (by omega) ) ?_
          rintro _ _ ⟨r10, rfl, hr10a, hr10b, rfl⟩
          show zW E (d) 75 37 [(2, 60), (0, a0), (0, a1), (0, i1), (0, i2)] [(0, r10), (0, i1), (2, 60)] m0 Q
          refine zw_C zr_75_37 (Or.inl rfl) zm_74 rfl rfl ⟨Nat.le_of_ble_eq_true rfl, Nat.le_of_ble_eq_true rfl, Nat.le_of_ble_eq_true rfl, rfl, by decide⟩ (by omega) (th_74 (d := d - 1) (by omega) hI0 (a0 := i1) (a1 := r10)      (by omega) (by omega) ) ?_
          rintro _ _ ⟨r11, rfl, hr11a, hr11b, rfl⟩
          show zW E (d) 75 40 [(2, 60), (0, a0), (0, a1), (0, i1), (0, i2)] [(0, r11)] m0 Q
          refine zw_R zr_75_40 (by decide) zm_75 (v := (0, r11)) rfl ?_
          rw [← hQ]; exact ⟨_, rfl, by omega, by omega, rfl⟩
        · intro h12
          refine zw_7 zr_75_18 rfl ?_
          refine zw_3 zr_75_19 rfl ?_
          refine zw_C zr_75_20 (Or.inl rfl) zm_73 rfl rfl ⟨Nat.le_of_ble_eq_true rfl, Nat.le_of_ble_eq_true rfl, Nat.le_of_ble_eq_true rfl, rfl, by decide⟩ (by omega) (th_73 (d := d - 1) (by omega) hI0 (a0 := i1)      (by omega) ) ?_
          rintro _ _ ⟨r13, rfl, hr13a, hr13b, rfl⟩
          show zW E (d) 75 23 [(2, 60), (0, a0), (0, a1), (0, i1), (0, i2)] [(0, r13)] m0 Q
          refine zw_9 (L' := [(2, 60), (0, a0), (0, a1), (0, r13), (0, i2)]) zr_75_23 (Nat.le_of_ble_eq_true rfl) rfl ?_
          refine zw_15 (c := 1) (L' := [(2, 60), (0, a0), (0, a1), (0, r13), (0, (i2 + 1))]) zr_75_24 rfl (by decide) (by omega) rfl ?_
          refine zw_42 zr_75_27 ?_
          exact zw_less (L := [(2, 60), (0, a0), (0, a1), (0, r13), (0, (i2 + 1))]) ⟨Or.inr rfl, Or.inr rfl, Or.inr rfl, Or.inr rfl, Or.inr rfl, trivial⟩ (ihlp5_3 (r13) ((i2 + 1))  (by omega) (by omega) (by omega) (by omega)  (by omega))
  exact lp5_3 _ (a0) (0)  (by omega) (by omega) (by omega) (by omega)  (Nat.lt_succ_self _)

abbrev W_121 : List (Nat × Nat) := [(61, 1000), (62, 1000)]
set_option maxHeartbeats 8000000 in
theorem th_121 {E : zE} {d : Nat} {m0 : zM} {a0 : Int} {a1 : Int} {a2 : Int} (hd : 5 ≤ d) (hI0 : zInv m0) (ha0 : (-2147483648) ≤ a0 ∧ a0 ≤ 2147483647) (ha1 : (-2147483648) ≤ a1 ∧ a1 ≤ 2147483647) (ha2 : (-2147483648) ≤ a2 ∧ a2 ≤ 2147483647) : zC E d 121 [(2, 0), (0, a0), (0, a1), (0, a2)] m0 (fun v m' => ∃ r : Int, v = (0, r) ∧ (-2147483648) ≤ r ∧ r ≤ 2147483647 ∧ zInv m' ∧ zFr W_121 m0 m') := by
  have hF0 : zFr W_121 m0 m0 := zFr.rfl
  generalize hQ : (fun (v : zV) (m' : zM) => ∃ r : Int, v = (0, r) ∧ (-2147483648) ≤ r ∧ r ≤ 2147483647 ∧ zInv m' ∧ zFr W_121 m0 m') = Q
  show zW E d 121 0 [(2, 0), (0, a0), (0, a1), (0, a2), (9, 0)] [] m0 Q
  refine zw_7 zr_121_0 rfl ?_
  refine zw_46r (s := 1) zr_121_1 rfl rfl rfl rfl ?_
  refine zw_3 zr_121_4 rfl ?_
  refine zw_C zr_121_5 (Or.inl rfl) zm_49 rfl rfl ⟨Nat.le_of_ble_eq_true rfl, Nat.le_of_ble_eq_true rfl, Nat.le_of_ble_eq_true rfl, rfl, by decide⟩ (by omega) (P := (fun v m' => zW E (d) 121 8 [(2, 0), (0, a0), (0, a1), (0, a2), (9, 0)] (if v.1 = 9 then [] else v :: []) m' Q)) ?_ (fun _ _ h => h)
  generalize hQ1 : (fun v m' => zW E (d) 121 8 [(2, 0), (0, a0), (0, a1), (0, a2), (9, 0)] (if v.1 = 9 then [] else v :: []) m' Q) = Q1
  show zW E (d - 1) 49 0 [(2, 1), (0, a0)] [] m0 Q1
  refine zw_3 zr_49_0 rfl ?_
  refine zw_40_0 zr_49_1 ?_ ?_
  · intro h1
    refine zw_push zr_49_16 ?_
    refine zw_R zr_49_17 (by decide) zm_49 (v := (0, 0)) (zRetB (by omega)) ?_
    rw [← hQ1]
    show zW E (d) 121 8 [(2, 0), (0, a0), (0, a1), (0, a2), (9, 0)] [(0, 0)] m0 Q
    refine zw_40_1 zr_121_8 ?_ ?_
    · intro h2
      refine zw_push zr_121_27 ?_
      refine zw_R zr_121_29 (by decide) zm_121 (v := (0, (-10))) rfl ?_
      rw [← hQ]; exact ⟨_, rfl, by omega, by omega, hI0, hF0⟩
    · intro h3; omega
  · intro h4
    refine zw_3 zr_49_4 rfl ?_
    refine zw_7 zr_49_5 rfl ?_
    obtain ⟨f5, ef5⟩ : ∃ v, m0 1 0 = v := ⟨_, rfl⟩
    have bf5 := ib_1_0 hI0
    rw [ef5] at bf5
    refine zw_46i zr_49_6 ef5 rfl rfl rfl ?_
    refine zw_41_3 zr_49_9 ?_ ?_
    · intro h6
      refine zw_push zr_49_16 ?_
      refine zw_R zr_49_17 (by decide) zm_49 (v := (0, 0)) (zRetB (by omega)) ?_
      rw [← hQ1]
      show zW E (d) 121 8 [(2, 0), (0, a0), (0, a1), (0, a2), (9, 0)] [(0, 0)] m0 Q
      refine zw_40_1 zr_121_8 ?_ ?_
      · intro h7
        refine zw_push zr_121_27 ?_
        refine zw_R zr_121_29 (by decide) zm_121 (v := (0, (-10))) rfl ?_
        rw [← hQ]; exact ⟨_, rfl, by omega, by omega, hI0, hF0⟩
      · intro h8; omega
    · intro h9
      refine zw_push zr_49_12 ?_
      refine zw_42 zr_49_13 ?_
      refine zw_R zr_49_17 (by decide) zm_49 (v := (0, 1)) (zRetB (by omega)) ?_
      rw [← hQ1]
      show zW E (d) 121 8 [(2, 0), (0, a0), (0, a1), (0, a2), (9, 0)] [(0, 1)] m0 Q
      refine zw_40_1 zr_121_8 ?_ ?_
      · intro h10; omega
      · intro h11
        refine zw_7 zr_121_11 rfl ?_
        refine zw_46r (s := 1) zr_121_12 rfl rfl rfl rfl ?_
        refine zw_3 zr_121_15 rfl ?_
        refine zw_C zr_121_16 (Or.inl rfl) zm_49 rfl rfl ⟨Nat.le_of_ble_eq_true rfl, Nat.le_of_ble_eq_true rfl, Nat.le_of_ble_eq_true rfl, rfl, by decide⟩ (by omega) (P := (fun v m' => zW E (d) 121 19 [(2, 0), (0, a0), (0, a1), (0, a2), (9, 0)] (if v.1 = 9 then [] else v :: []) m' Q)) ?_ (fun _ _ h => h)
        generalize hQ1 : (fun v m' => zW E (d) 121 19 [(2, 0), (0, a0), (0, a1), (0, a2), (9, 0)] (if v.1 = 9 then [] else v :: []) m' Q) = Q1
        show zW E (d - 1) 49 0 [(2, 1), (0, a1)] [] m0 Q1
        refine zw_3 zr_49_0 rfl ?_
        refine zw_40_0 zr_49_1 ?_ ?_
        · intro h12
          refine zw_push zr_49_16 ?_
          refine zw_R zr_49_17 (by decide) zm_49 (v := (0, 0)) (zRetB (by omega)) ?_
          rw [← hQ1]
          show zW E (d) 121 19 [(2, 0), (0, a0), (0, a1), (0, a2), (9, 0)] [(0, 0)] m0 Q
          refine zw_40_1 zr_121_19 ?_ ?_
          · intro h13
            refine zw_push zr_121_27 ?_
            refine zw_R zr_121_29 (by decide) zm_121 (v := (0, (-10))) rfl ?_
            rw [← hQ]; exact ⟨_, rfl, by omega, by omega, hI0, hF0⟩
          · intro h14; omega
        · intro h15
          refine zw_3 zr_49_4 rfl ?_
          refine zw_7 zr_49_5 rfl ?_
          refine zw_46i zr_49_6 ef5 rfl rfl rfl ?_
          refine zw_41_3 zr_49_9 ?_ ?_
          · intro h16
            refine zw_push zr_49_16 ?_
            refine zw_R zr_49_17 (by decide) zm_49 (v := (0, 0)) (zRetB (by omega)) ?_
            rw [← hQ1]
            show zW E (d) 121 19 [(2, 0), (0, a0), (0, a1), (0, a2), (9, 0)] [(0, 0)] m0 Q
            refine zw_40_1 zr_121_19 ?_ ?_
            · intro h17
              refine zw_push zr_121_27 ?_
              refine zw_R zr_121_29 (by decide) zm_121 (v := (0, (-10))) rfl ?_
              rw [← hQ]; exact ⟨_, rfl, by omega, by omega, hI0, hF0⟩
            · intro h18; omega
          · intro h19
            refine zw_push zr_49_12 ?_
            refine zw_42 zr_49_13 ?_
            refine zw_R zr_49_17 (by decide) zm_49 (v := (0, 1)) (zRetB (by omega)) ?_
            rw [← hQ1]
            show zW E (d) 121 19 [(2, 0), (0, a0), (0, a1), (0, a2), (9, 0)] [(0, 1)] m0 Q
            refine zw_40_1 zr_121_19 ?_ ?_
            · intro h20; omega
            · intro h21
              refine zw_3 zr_121_22 rfl ?_
              refine zw_push zr_121_23 ?_
              refine zw_41_3 zr_121_24 ?_ ?_
              · intro h22
                refine zw_7 zr_121_30 rfl ?_
                refine zw_46r (s := 60) zr_121_31 rfl rfl rfl rfl ?_
                refine zw_3 zr_121_34 rfl ?_
                refine zw_3 zr_121_35 rfl ?_
                refine zw_C zr_121_36 (Or.inl rfl) zm_72 rfl rfl ⟨Nat.le_of_ble_eq_true rfl, Nat.le_of_ble_eq_true rfl, Nat.le_of_ble_eq_true rfl, rfl, by decide⟩ (by omega) (th_72 (d := d - 1) (by omega) hI0 (a0 := a0) (a1 := a1)      (by omega) (by omega) ) ?_
                rintro _ m23 ⟨r24, rfl, hr24a, hr24b, hIm23, gm23⟩
                have hFm23 : zFr W_121 m0 m23 := hF0.trans gm23 rfl
                have km23_1_0 : m23 1 0 = f5 := (gm23 1 0 rfl).trans ef5
                show zW E (d) 121 39 [(2, 0), (0, a0), (0, a1), (0, a2), (9, 0)] [(0, r24)] m23 Q
                refine zw_10 (L' := [(2, 0), (0, a0), (0, a1), (0, a2), (0, r24)]) zr_121_39 (Nat.le_of_ble_eq_true rfl) rfl ?_
                refine zw_3 zr_121_41 rfl ?_
                refine zw_push zr_121_42 ?_
                refine zw_41_4 zr_121_43 ?_ ?_
                · intro h25
                  refine zw_3 zr_121_49 rfl ?_
                  refine zw_4 zr_121_50 rfl ?_
                  refine zw_41_3 zr_121_52 ?_ ?_
                  · intro h26
                    refine zw_push zr_121_67 ?_
                    refine zw_R zr_121_69 (by decide) zm_121 (v := (0, (-5))) rfl ?_
                    rw [← hQ]; exact ⟨_, rfl, by omega, by omega, hIm23, hFm23⟩
                  · intro h27
                    refine zw_7 zr_121_55 rfl ?_
                    refine zw_46r (s := 60) zr_121_56 rfl rfl rfl rfl ?_
                    refine zw_3 zr_121_59 rfl ?_
                    refine zw_3 zr_121_60 rfl ?_
                    refine zw_C zr_121_61 (Or.inl rfl) zm_75 rfl rfl ⟨Nat.le_of_ble_eq_true rfl, Nat.le_of_ble_eq_true rfl, Nat.le_of_ble_eq_true rfl, rfl, by decide⟩ (by omega) (th_75 (d := d - 1) (by omega) hIm23 (a0 := a0) (a1 := a2)      (by omega) (by omega) ) ?_
                    rintro _ _ ⟨r28, rfl, hr28a, hr28b, rfl⟩
                    show zW E (d) 121 64 [(2, 0), (0, a0), (0, a1), (0, a2), (0, r24)] [(0, r28)] m23 Q
                    refine zw_42 zr_121_64 ?_
                    refine zw_R zr_121_69 (by decide) zm_121 (v := (0, r28)) rfl ?_
                    rw [← hQ]; exact ⟨_, rfl, by omega, by omega, hIm23, hFm23⟩
                · intro h29
                  refine zw_4 zr_121_46 rfl ?_
                  refine zw_R zr_121_48 (by decide) zm_121 (v := (0, r24)) rfl ?_
                  rw [← hQ]; exact ⟨_, rfl, by omega, by omega, hIm23, hFm23⟩
              · intro h30
                refine zw_push zr_121_27 ?_
                refine zw_R zr_121_29 (by decide) zm_121 (v := (0, (-10))) rfl ?_
                rw [← hQ]; exact ⟨_, rfl, by omega, by omega, hI0, hF0⟩

abbrev W_191 : List (Nat × Nat) := [(81, 1000)]
set_option maxHeartbeats 8000000 in
theorem th_191 {E : zE} {d : Nat} {m0 : zM} {a0 : Int} {a1 : Int} {a2 : Int} (hd : 4 ≤ d) (hI0 : zInv m0) (ha0 : (-2147483648) ≤ a0 ∧ a0 ≤ 2147483647) (ha1 : (-2147483648) ≤ a1 ∧ a1 ≤ 2147483647) (ha2 : (-2147483648) ≤ a2 ∧ a2 ≤ 2147483647) : zC E d 191 [(2, 69), (0, a0), (0, a1), (0, a2)] m0 (fun v m' => ∃ r : Int, v = (0, r) ∧ (-10) ≤ r ∧ r ≤ 99999999 ∧ zInv m' ∧ zFr W_191 m0 m') := by
  have hF0 : zFr W_191 m0 m0 := zFr.rfl
  generalize hQ : (fun (v : zV) (m' : zM) => ∃ r : Int, v = (0, r) ∧ (-10) ≤ r ∧ r ≤ 99999999 ∧ zInv m' ∧ zFr W_191 m0 m') = Q
  show zW E d 191 0 [(2, 69), (0, a0), (0, a1), (0, a2), (9, 0), (9, 0), (9, 0), (9, 0), (9, 0), (9, 0)] [] m0 Q
  refine zw_7 zr_191_0 rfl ?_
  refine zw_3 zr_191_1 rfl ?_
  refine zw_C zr_191_2 (Or.inl rfl) zm_143 rfl rfl ⟨Nat.le_of_ble_eq_true rfl, Nat.le_of_ble_eq_true rfl, Nat.le_of_ble_eq_true rfl, rfl, by decide⟩ (by omega) (P := (fun v m' => zW E (d) 191 5 [(2, 69), (0, a0), (0, a1), (0, a2), (9, 0), (9, 0), (9, 0), (9, 0), (9, 0), (9, 0)] (if v.1 = 9 then [] else v :: []) m' Q)) ?_ (fun _ _ h => h)
  generalize hQ1 : (fun v m' => zW E (d) 191 5 [(2, 69), (0, a0), (0, a1), (0, a2), (9, 0), (9, 0), (9, 0), (9, 0), (9, 0), (9, 0)] (if v.1 = 9 then [] else v :: []) m' Q) = Q1
  show zW E (d - 1) 143 0 [(2, 69), (0, a0)] [] m0 Q1
  refine zw_3 zr_143_0 rfl ?_
  refine zw_36 zr_143_1 ?_
  refine zw_push zr_143_2 ?_
  refine zw_7 zr_143_3 rfl ?_
  refine zw_C zr_143_4 (Or.inl rfl) zm_141 rfl rfl ⟨Nat.le_of_ble_eq_true rfl, Nat.le_of_ble_eq_true rfl, Nat.le_of_ble_eq_true rfl, rfl, by decide⟩ (by omega) (P := (fun v m' => zW E (d - 1) 143 7 [(2, 69), (0, a0)] (if v.1 = 9 then [(1, 0), (1, a0)] else v :: [(1, 0), (1, a0)]) m' Q1)) ?_ (fun _ _ h => h)
  generalize hQ2 : (fun v m' => zW E (d - 1) 143 7 [(2, 69), (0, a0)] (if v.1 = 9 then [(1, 0), (1, a0)] else v :: [(1, 0), (1, a0)]) m' Q1) = Q2
  show zW E (d - 1 - 1) 141 0 [(2, 69)] [] m0 Q2
  refine zw_7 zr_141_0 rfl ?_
  refine zw_46r (s := 70) zr_141_1 rfl rfl rfl rfl ?_
  refine zw_push zr_141_4 ?_
  obtain ⟨f1, ef1⟩ : ∃ v, m0 70 822 = v := ⟨_, rfl⟩
  have bf1 : 0 ≤ m0 70 822 ∧ m0 70 822 ≤ 10 := ib_70_players hI0 (by omega)
  rw [ef1] at bf1
  refine zw_48k (c := 70) (len := 826) zr_141_7 rfl rfl (by omega) (by omega) (show (822 : Int).toNat = 822 by omega) ef1 ?_
  refine zw_R zr_141_8 (by decide) zm_141 (v := (0, f1)) rfl ?_
  rw [← hQ2]
  show zW E (d - 1) 143 7 [(2, 69), (0, a0)] [(0, f1), (1, 0), (1, a0)] m0 Q1
  refine zw_push zr_143_7 ?_
  refine zw_17 zr_143_8 (by omega) ?_
  refine zw_36 zr_143_9 ?_
  refine zw_C zr_143_10 (Or.inr rfl) zm_140 rfl rfl ⟨Nat.le_of_ble_eq_true rfl, Nat.le_of_ble_eq_true rfl, Nat.le_of_ble_eq_true rfl, rfl, by decide⟩ (by omega) (P := (fun v m' => zW E (d - 1) 143 13 [(2, 69), (0, a0)] (if v.1 = 9 then [] else v :: []) m' Q1)) ?_ (fun _ _ h => h)
  generalize hQ2 : (fun v m' => zW E (d - 1) 143 13 [(2, 69), (0, a0)] (if v.1 = 9 then [] else v :: []) m' Q1) = Q2
  show zW E (d - 1 - 1) 140 0 [(1, a0), (9, 0), (1, 0), (9, 0), (1, (f1 - 1)), (9, 0)] [] m0 Q2
  refine zw_5 zr_140_0 rfl ?_
  refine zw_5 zr_140_1 rfl ?_
  refine zw_39_0 zr_140_2 zr_140_3 ?_ ?_
  · intro h2
    refine zw_push zr_140_17 ?_
    refine zw_R zr_140_18 (by decide) zm_140 (v := (0, 0)) (zRetB (by omega)) ?_
    rw [← hQ2]
    show zW E (d - 1) 143 13 [(2, 69), (0, a0)] [(0, 0)] m0 Q1
    refine zw_R zr_143_13 (by decide) zm_143 (v := (0, 0)) (zRetB (by omega)) ?_
    rw [← hQ1]
    show zW E (d) 191 5 [(2, 69), (0, a0), (0, a1), (0, a2), (9, 0), (9, 0), (9, 0), (9, 0), (9, 0), (9, 0)] [(0, 0)] m0 Q
    refine zw_40_1 zr_191_5 ?_ ?_
    · intro h3
      refine zw_push zr_191_21 ?_
      refine zw_R zr_191_23 (by decide) zm_191 (v := (0, (-10))) rfl ?_
      rw [← hQ]; exact ⟨_, rfl, by omega, by omega, hI0, hF0⟩
    · intro h4; omega
  · intro h5
    refine zw_5 zr_140_6 rfl ?_
    refine zw_6 zr_140_7 rfl ?_
    refine zw_39_2 zr_140_9 zr_140_10 ?_ ?_
    · intro h6
      refine zw_push zr_140_17 ?_
      refine zw_R zr_140_18 (by decide) zm_140 (v := (0, 0)) (zRetB (by omega)) ?_
      rw [← hQ2]
      show zW E (d - 1) 143 13 [(2, 69), (0, a0)] [(0, 0)] m0 Q1
      refine zw_R zr_143_13 (by decide) zm_143 (v := (0, 0)) (zRetB (by omega)) ?_
      rw [← hQ1]
      show zW E (d) 191 5 [(2, 69), (0, a0), (0, a1), (0, a2), (9, 0), (9, 0), (9, 0), (9, 0), (9, 0), (9, 0)] [(0, 0)] m0 Q
      refine zw_40_1 zr_191_5 ?_ ?_
      · intro h7
        refine zw_push zr_191_21 ?_
        refine zw_R zr_191_23 (by decide) zm_191 (v := (0, (-10))) rfl ?_
        rw [← hQ]; exact ⟨_, rfl, by omega, by omega, hI0, hF0⟩
      · intro h8; omega
    · intro h9
      refine zw_push zr_140_13 ?_
      refine zw_42 zr_140_14 ?_
      refine zw_R zr_140_18 (by decide) zm_140 (v := (0, 1)) (zRetB (by omega)) ?_
      rw [← hQ2]
      show zW E (d - 1) 143 13 [(2, 69), (0, a0)] [(0, 1)] m0 Q1
      refine zw_R zr_143_13 (by decide) zm_143 (v := (0, 1)) (zRetB (by omega)) ?_
      rw [← hQ1]
      show zW E (d) 191 5 [(2, 69), (0, a0), (0, a1), (0, a2), (9, 0), (9, 0), (9, 0), (9, 0), (9, 0), (9, 0)] [(0, 1)] m0 Q
      refine zw_40_1 zr_191_5 ?_ ?_
      · intro h10; omega
      · intro h11
        refine zw_7 zr_191_8 rfl ?_
        refine zw_3 zr_191_9 rfl ?_
        refine zw_C zr_191_10 (Or.inl rfl) zm_143 rfl rfl ⟨Nat.le_of_ble_eq_true rfl, Nat.le_of_ble_eq_true rfl, Nat.le_of_ble_eq_true rfl, rfl, by decide⟩ (by omega) (P := (fun v m' => zW E (d) 191 13 [(2, 69), (0, a0), (0, a1), (0, a2), (9, 0), (9, 0), (9, 0), (9, 0), (9, 0), (9, 0)] (if v.1 = 9 then [] else v :: []) m' Q)) ?_ (fun _ _ h => h)
        generalize hQ1 : (fun v m' => zW E (d) 191 13 [(2, 69), (0, a0), (0, a1), (0, a2), (9, 0), (9, 0), (9, 0), (9, 0), (9, 0), (9, 0)] (if v.1 = 9 then [] else v :: []) m' Q) = Q1
        show zW E (d - 1) 143 0 [(2, 69), (0, a1)] [] m0 Q1
        refine zw_3 zr_143_0 rfl ?_
        refine zw_36 zr_143_1 ?_
        refine zw_push zr_143_2 ?_
        refine zw_7 zr_143_3 rfl ?_
        refine zw_C zr_143_4 (Or.inl rfl) zm_141 rfl rfl ⟨Nat.le_of_ble_eq_true rfl, Nat.le_of_ble_eq_true rfl, Nat.le_of_ble_eq_true rfl, rfl, by decide⟩ (by omega) (P := (fun v m' => zW E (d - 1) 143 7 [(2, 69), (0, a1)] (if v.1 = 9 then [(1, 0), (1, a1)] else v :: [(1, 0), (1, a1)]) m' Q1)) ?_ (fun _ _ h => h)
        generalize hQ2 : (fun v m' => zW E (d - 1) 143 7 [(2, 69), (0, a1)] (if v.1 = 9 then [(1, 0), (1, a1)] else v :: [(1, 0), (1, a1)]) m' Q1) = Q2
        show zW E (d - 1 - 1) 141 0 [(2, 69)] [] m0 Q2
        refine zw_7 zr_141_0 rfl ?_
        refine zw_46r (s := 70) zr_141_1 rfl rfl rfl rfl ?_
        refine zw_push zr_141_4 ?_
        refine zw_48k (c := 70) (len := 826) zr_141_7 rfl rfl (by omega) (by omega) (show (822 : Int).toNat = 822 by omega) ef1 ?_
        refine zw_R zr_141_8 (by decide) zm_141 (v := (0, f1)) rfl ?_
        rw [← hQ2]
        show zW E (d - 1) 143 7 [(2, 69), (0, a1)] [(0, f1), (1, 0), (1, a1)] m0 Q1
        refine zw_push zr_143_7 ?_
        refine zw_17 zr_143_8 (by omega) ?_
        refine zw_36 zr_143_9 ?_
        refine zw_C zr_143_10 (Or.inr rfl) zm_140 rfl rfl ⟨Nat.le_of_ble_eq_true rfl, Nat.le_of_ble_eq_true rfl, Nat.le_of_ble_eq_true rfl, rfl, by decide⟩ (by omega) (P := (fun v m' => zW E (d - 1) 143 13 [(2, 69), (0, a1)] (if v.1 = 9 then [] else v :: []) m' Q1)) ?_ (fun _ _ h => h)
        generalize hQ2 : (fun v m' => zW E (d - 1) 143 13 [(2, 69), (0, a1)] (if v.1 = 9 then [] else v :: []) m' Q1) = Q2
        show zW E (d - 1 - 1) 140 0 [(1, a1), (9, 0), (1, 0), (9, 0), (1, (f1 - 1)), (9, 0)] [] m0 Q2
        refine zw_5 zr_140_0 rfl ?_
        refine zw_5 zr_140_1 rfl ?_
        refine zw_39_0 zr_140_2 zr_140_3 ?_ ?_
        · intro h12
          refine zw_push zr_140_17 ?_
          refine zw_R zr_140_18 (by decide) zm_140 (v := (0, 0)) (zRetB (by omega)) ?_
          rw [← hQ2]
          show zW E (d - 1) 143 13 [(2, 69), (0, a1)] [(0, 0)] m0 Q1
          refine zw_R zr_143_13 (by decide) zm_143 (v := (0, 0)) (zRetB (by omega)) ?_
          rw [← hQ1]
          show zW E (d) 191 13 [(2, 69), (0, a0), (0, a1), (0, a2), (9, 0), (9, 0), (9, 0), (9, 0), (9, 0), (9, 0)] [(0, 0)] m0 Q
          refine zw_40_1 zr_191_13 ?_ ?_
          · intro h13
            refine zw_push zr_191_21 ?_
            refine zw_R zr_191_23 (by decide) zm_191 (v := (0, (-10))) rfl ?_
            rw [← hQ]; exact ⟨_, rfl, by omega, by omega, hI0, hF0⟩
          · intro h14; omega
        · intro h15
          refine zw_5 zr_140_6 rfl ?_
          refine zw_6 zr_140_7 rfl ?_
          refine zw_39_2 zr_140_9 zr_140_10 ?_ ?_
          · intro h16
            refine zw_push zr_140_17 ?_
            refine zw_R zr_140_18 (by decide) zm_140 (v := (0, 0)) (zRetB (by omega)) ?_
            rw [← hQ2]
            show zW E (d - 1) 143 13 [(2, 69), (0, a1)] [(0, 0)] m0 Q1
            refine zw_R zr_143_13 (by decide) zm_143 (v := (0, 0)) (zRetB (by omega)) ?_
            rw [← hQ1]
            show zW E (d) 191 13 [(2, 69), (0, a0), (0, a1), (0, a2), (9, 0), (9, 0), (9, 0), (9, 0), (9, 0), (9, 0)] [(0, 0)] m0 Q
            refine zw_40_1 zr_191_13 ?_ ?_
            · intro h17
              refine zw_push zr_191_21 ?_
              refine zw_R zr_191_23 (by decide) zm_191 (v := (0, (-10))) rfl ?_
              rw [← hQ]; exact ⟨_, rfl, by omega, by omega, hI0, hF0⟩
            · intro h18; omega
          · intro h19
            refine zw_push zr_140_13 ?_
            refine zw_42 zr_140_14 ?_
            refine zw_R zr_140_18 (by decide) zm_140 (v := (0, 1)) (zRetB (by omega)) ?_
            rw [← hQ2]
            show zW E (d - 1) 143 13 [(2, 69), (0, a1)] [(0, 1)] m0 Q1
            refine zw_R zr_143_13 (by decide) zm_143 (v := (0, 1)) (zRetB (by omega)) ?_
            rw [← hQ1]
            show zW E (d) 191 13 [(2, 69), (0, a0), (0, a1), (0, a2), (9, 0), (9, 0), (9, 0), (9, 0), (9, 0), (9, 0)] [(0, 1)] m0 Q
            refine zw_40_1 zr_191_13 ?_ ?_
            · intro h20; omega
            · intro h21
              refine zw_3 zr_191_16 rfl ?_
              refine zw_push zr_191_17 ?_
              refine zw_41_3 zr_191_18 ?_ ?_
              · intro h22
                refine zw_7 zr_191_24 rfl ?_
                refine zw_3 zr_191_25 rfl ?_
                refine zw_push zr_191_26 ?_
                refine zw_C zr_191_27 (Or.inl rfl) zm_188 rfl rfl ⟨Nat.le_of_ble_eq_true rfl, Nat.le_of_ble_eq_true rfl, Nat.le_of_ble_eq_true rfl, rfl, by decide⟩ (by omega) (th_188 (d := d - 1) (by omega) hI0 (a0 := a1) (a1 := (-1))      (by omega) (by omega) ) ?_
                rintro _ m23 ⟨rfl, hIm23, gm23, po0_m23⟩
                have hFm23 : zFr W_191 m0 m23 := hF0.trans gm23 rfl
                have km23_70_822 : m23 70 822 = f1 := (gm23 70 822 rfl).trans ef1
                show zW E (d) 191 30 [(2, 69), (0, a0), (0, a1), (0, a2), (9, 0), (9, 0), (9, 0), (9, 0), (9, 0), (9, 0)] [] m23 Q
                refine zw_7 zr_191_30 rfl ?_
                refine zw_46r (s := 81) zr_191_31 rfl rfl rfl rfl ?_
                refine zw_3 zr_191_34 rfl ?_
                refine zw_48 (c := 81) (len := 10) zr_191_35 rfl rfl (by omega) (by omega) ?_
                intro x24 ex24
                have bx24 := ib_81 hIm23 (k := (a0).toNat) (by omega)
                rw [← ex24] at bx24
                refine zw_push zr_191_36 ?_
                refine zw_41_0 zr_191_38 ?_ ?_
                · intro h25
                  refine zw_3 zr_191_44 rfl ?_
                  refine zw_push zr_191_45 ?_
                  refine zw_41_4 zr_191_46 ?_ ?_
                  · intro h26
                    refine zw_3 zr_191_56 rfl ?_
                    refine zw_7 zr_191_57 rfl ?_
                    refine zw_46r (s := 81) zr_191_58 rfl rfl rfl rfl ?_
                    refine zw_3 zr_191_61 rfl ?_
                    refine zw_48k (c := 81) (len := 10) zr_191_62 rfl rfl (by omega) (by omega) rfl ex24.symm ?_
                    refine zw_41_0 zr_191_63 ?_ ?_
                    · intro h27
                      refine zw_3 zr_191_69 rfl ?_
                      refine zw_10 (L' := [(2, 69), (0, a0), (0, a1), (0, a2), (0, a0), (9, 0), (9, 0), (9, 0), (9, 0), (9, 0)]) zr_191_70 (Nat.le_of_ble_eq_true rfl) rfl ?_
                      refine zw_push zr_191_72 ?_
                      refine zw_10 (L' := [(2, 69), (0, a0), (0, a1), (0, a2), (0, a0), (0, (-1)), (9, 0), (9, 0), (9, 0), (9, 0)]) zr_191_73 (Nat.le_of_ble_eq_true rfl) rfl ?_
                      refine zw_push zr_191_75 ?_
                      refine zw_10 (L' := [(2, 69), (0, a0), (0, a1), (0, a2), (0, a0), (0, (-1)), (0, 0), (9, 0), (9, 0), (9, 0)]) zr_191_76 (Nat.le_of_ble_eq_true rfl) rfl ?_
                      have lp78_31 : ∀ (nlp78_31 : Nat) (i28 i29 i30 : Int), (-1) ≤ i28 → i28 ≤ 9 → (-1) ≤ i29 → i29 ≤ 59 → 0 ≤ i30 → i30 ≤ 2147483647 → (2147483647 - i30).toNat < nlp78_31 → zW E (d) 191 78 [(2, 69), (0, a0), (0, a1), (0, a2), (0, i28), (0, i29), (0, i30), (9, 0), (9, 0), (9, 0)] [] m23 Q := by
                        intro nlp78_31
                        induction nlp78_31 with
                        | zero =>
                          intros
                          exact absurd (by assumption : _ < 0) (Nat.not_lt_zero _)
                        | succ nlp78_31 ihlp78_31 =>
                          intro i28 i29 i30 li28 ui28 li29 ui29 li30 ui30 hmlp78_31
                          refine zw_4 zr_191_78 rfl ?_
                          refine zw_3 zr_191_80 rfl ?_
                          refine zw_41_2 zr_191_81 ?_ ?_
                          · intro h33
                            refine zw_4 zr_191_195 rfl ?_
                            refine zw_R zr_191_197 (by decide) zm_191 (v := (0, i29)) rfl ?_
                            rw [← hQ]; exact ⟨_, rfl, by omega, by omega, hIm23, hFm23⟩
                          · intro h34
                            refine zw_push zr_191_84 ?_
                            refine zw_10 (L' := [(2, 69), (0, a0), (0, a1), (0, a2), (0, i28), (0, i29), (0, i30), (0, (-1)), (9, 0), (9, 0)]) zr_191_85 (Nat.le_of_ble_eq_true rfl) rfl ?_
                            refine zw_push zr_191_87 ?_
                            refine zw_10 (L' := [(2, 69), (0, a0), (0, a1), (0, a2), (0, i28), (0, i29), (0, i30), (0, (-1)), (0, 0), (9, 0)]) zr_191_88 (Nat.le_of_ble_eq_true rfl) rfl ?_
                            have lp90_38 : ∀ (nlp90_38 : Nat) (i35 i36 i37 : Int), (-1) ≤ i35 → i35 ≤ 59 → (-1) ≤ i36 → i36 ≤ 9 → 0 ≤ i37 → i37 ≤ 60 → (60 - i37).toNat < nlp90_38 → zW E (d) 191 90 [(2, 69), (0, a0), (0, a1), (0, a2), (0, i28), (0, i35), (0, i30), (0, i36), (0, i37), (9, 0)] [] m23 Q := by
                              intro nlp90_38
                              induction nlp90_38 with
                              | zero =>
                                intros
                                exact absurd (by assumption : _ < 0) (Nat.not_lt_zero _)
                              | succ nlp90_38 ihlp90_38 =>
                                intro i35 i36 i37 li35 ui35 li36 ui36 li37 ui37 hmlp90_38
                                refine zw_4 zr_191_90 rfl ?_
                                refine zw_7 zr_191_92 rfl ?_
                                refine zw_C zr_191_93 (Or.inl rfl) zm_142 rfl rfl ⟨Nat.le_of_ble_eq_true rfl, Nat.le_of_ble_eq_true rfl, Nat.le_of_ble_eq_true rfl, rfl, by decide⟩ (by omega) (P := (fun v m' => zW E (d) 191 96 [(2, 69), (0, a0), (0, a1), (0, a2), (0, i28), (0, i35), (0, i30), (0, i36), (0, i37), (9, 0)] (if v.1 = 9 then [(0, i37)] else v :: [(0, i37)]) m' Q)) ?_ (fun _ _ h => h)
                                generalize hQ1 : (fun v m' => zW E (d) 191 96 [(2, 69), (0, a0), (0, a1), (0, a2), (0, i28), (0, i35), (0, i30), (0, i36), (0, i37), (9, 0)] (if v.1 = 9 then [(0, i37)] else v :: [(0, i37)]) m' Q) = Q1
                                show zW E (d - 1) 142 0 [(2, 69)] [] m23 Q1
                                refine zw_7 zr_142_0 rfl ?_
                                refine zw_46r (s := 70) zr_142_1 rfl rfl rfl rfl ?_
                                refine zw_push zr_142_4 ?_
                                obtain ⟨f40, ef40⟩ : ∃ v, m23 70 823 = v := ⟨_, rfl⟩
                                have bf40 : 0 ≤ m23 70 823 ∧ m23 70 823 ≤ 60 := ib_70_meetings hIm23 (by omega)
                                rw [ef40] at bf40
                                refine zw_48k (c := 70) (len := 826) zr_142_7 rfl rfl (by omega) (by omega) (show (823 : Int).toNat = 823 by omega) ef40 ?_
                                refine zw_R zr_142_8 (by decide) zm_142 (v := (0, f40)) rfl ?_
                                rw [← hQ1]
                                show zW E (d) 191 96 [(2, 69), (0, a0), (0, a1), (0, a2), (0, i28), (0, i35), (0, i30), (0, i36), (0, i37), (9, 0)] [(0, f40), (0, i37)] m23 Q
                                refine zw_41_3 zr_191_96 ?_ ?_
                                · intro h41
                                  refine zw_4 zr_191_185 rfl ?_
                                  refine zw_10 (L' := [(2, 69), (0, a0), (0, a1), (0, a2), (0, i36), (0, i35), (0, i30), (0, i36), (0, i37), (9, 0)]) zr_191_187 (Nat.le_of_ble_eq_true rfl) rfl ?_
                                  refine zw_15 (c := 1) (L' := [(2, 69), (0, a0), (0, a1), (0, a2), (0, i36), (0, i35), (0, (i30 + 1)), (0, i36), (0, i37), (9, 0)]) zr_191_189 rfl (by decide) (by omega) rfl ?_
                                  refine zw_42 zr_191_192 ?_
                                  exact zw_less (L := [(2, 69), (0, a0), (0, a1), (0, a2), (0, i36), (0, i35), (0, (i30 + 1)), (9, 0), (9, 0), (9, 0)]) ⟨Or.inr rfl, Or.inr rfl, Or.inr rfl, Or.inr rfl, Or.inr rfl, Or.inr rfl, Or.inr rfl, Or.inl rfl, Or.inl rfl, Or.inl rfl, trivial⟩ (ihlp78_31 (i36) (i35) ((i30 + 1))  (by omega) (by omega) (by omega) (by omega) (by omega) (by omega)  (by omega))
                                · intro h42
                                  refine zw_7 zr_191_99 rfl ?_
                                  refine zw_4 zr_191_100 rfl ?_
                                  refine zw_C zr_191_102 (Or.inl rfl) zm_181 rfl rfl ⟨Nat.le_of_ble_eq_true rfl, Nat.le_of_ble_eq_true rfl, Nat.le_of_ble_eq_true rfl, rfl, by decide⟩ (by omega) (P := (fun v m' => zW E (d) 191 105 [(2, 69), (0, a0), (0, a1), (0, a2), (0, i28), (0, i35), (0, i30), (0, i36), (0, i37), (9, 0)] (if v.1 = 9 then [] else v :: []) m' Q)) ?_ (fun _ _ h => h)
                                  generalize hQ1 : (fun v m' => zW E (d) 191 105 [(2, 69), (0, a0), (0, a1), (0, a2), (0, i28), (0, i35), (0, i30), (0, i36), (0, i37), (9, 0)] (if v.1 = 9 then [] else v :: []) m' Q) = Q1
                                  show zW E (d - 1) 181 0 [(2, 69), (0, i37)] [] m23 Q1
                                  refine zw_7 zr_181_0 rfl ?_
                                  refine zw_3 zr_181_1 rfl ?_
                                  refine zw_push zr_181_2 ?_
                                  refine zw_C zr_181_3 (Or.inl rfl) zm_144 rfl rfl ⟨Nat.le_of_ble_eq_true rfl, Nat.le_of_ble_eq_true rfl, Nat.le_of_ble_eq_true rfl, rfl, by decide⟩ (by omega) (P := (fun v m' => zW E (d - 1) 181 6 [(2, 69), (0, i37)] (if v.1 = 9 then [] else v :: []) m' Q1)) ?_ (fun _ _ h => h)
                                  generalize hQ2 : (fun v m' => zW E (d - 1) 181 6 [(2, 69), (0, i37)] (if v.1 = 9 then [] else v :: []) m' Q1) = Q2
                                  show zW E (d - 1 - 1) 144 0 [(2, 69), (0, i37), (0, 4)] [] m23 Q2
                                  refine zw_7 zr_144_0 rfl ?_
                                  refine zw_46r (s := 70) zr_144_1 rfl rfl rfl rfl ?_
                                  refine zw_push zr_144_4 ?_
                                  refine zw_push zr_144_6 ?_
                                  refine zw_3 zr_144_8 rfl ?_
                                  refine zw_18 zr_144_9 (by omega) ?_
                                  refine zw_16 zr_144_10 (by omega) ?_
                                  refine zw_3 zr_144_11 rfl ?_
                                  refine zw_16 zr_144_12 (by omega) ?_
                                  refine zw_48 (c := 70) (len := 826) zr_144_13 rfl rfl (by omega) (by omega) ?_
                                  intro x43 ex43
                                  have bx43 := ib_70_m4 hIm23 (k := (((90 + (6 * i37)) + 4)).toNat) (by omega)
                                  rw [← ex43] at bx43
                                  refine zw_R zr_144_14 (by decide) zm_144 (v := (0, x43)) rfl ?_
                                  rw [← hQ2]
                                  show zW E (d - 1) 181 6 [(2, 69), (0, i37)] [(0, x43)] m23 Q1
                                  refine zw_40_4 zr_181_6 ?_ ?_
                                  · intro h44
                                    refine zw_push zr_181_22 ?_
                                    refine zw_R zr_181_23 (by decide) zm_181 (v := (0, 0)) (zRetB (by omega)) ?_
                                    rw [← hQ1]
                                    show zW E (d) 191 105 [(2, 69), (0, a0), (0, a1), (0, a2), (0, i28), (0, i35), (0, i30), (0, i36), (0, i37), (9, 0)] [(0, 0)] m23 Q
                                    refine zw_40_1 zr_191_105 ?_ ?_
                                    · intro h45
                                      refine zw_15 (c := 1) (L' := [(2, 69), (0, a0), (0, a1), (0, a2), (0, i28), (0, i35), (0, i30), (0, i36), (0, (i37 + 1)), (9, 0)]) zr_191_179 rfl (by decide) (by omega) rfl ?_
                                      refine zw_42 zr_191_182 ?_
                                      exact zw_less (L := [(2, 69), (0, a0), (0, a1), (0, a2), (0, i28), (0, i35), (0, i30), (0, i36), (0, (i37 + 1)), (9, 0)]) ⟨Or.inr rfl, Or.inr rfl, Or.inr rfl, Or.inr rfl, Or.inr rfl, Or.inr rfl, Or.inr rfl, Or.inr rfl, Or.inr rfl, Or.inl rfl, trivial⟩ (ihlp90_38 (i35) (i36) ((i37 + 1))  (by omega) (by omega) (by omega) (by omega) (by omega) (by omega)  (by omega))
                                    · intro h46; omega
                                  · intro h47
                                    refine zw_7 zr_181_9 rfl ?_
                                    refine zw_3 zr_181_10 rfl ?_
                                    refine zw_push zr_181_11 ?_
                                    refine zw_C zr_181_12 (Or.inl rfl) zm_144 rfl rfl ⟨Nat.le_of_ble_eq_true rfl, Nat.le_of_ble_eq_true rfl, Nat.le_of_ble_eq_true rfl, rfl, by decide⟩ (by omega) (P := (fun v m' => zW E (d - 1) 181 15 [(2, 69), (0, i37)] (if v.1 = 9 then [] else v :: []) m' Q1)) ?_ (fun _ _ h => h)
                                    generalize hQ2 : (fun v m' => zW E (d - 1) 181 15 [(2, 69), (0, i37)] (if v.1 = 9 then [] else v :: []) m' Q1) = Q2
                                    show zW E (d - 1 - 1) 144 0 [(2, 69), (0, i37), (0, 5)] [] m23 Q2
                                    refine zw_7 zr_144_0 rfl ?_
                                    refine zw_46r (s := 70) zr_144_1 rfl rfl rfl rfl ?_
                                    refine zw_push zr_144_4 ?_
                                    refine zw_push zr_144_6 ?_
                                    refine zw_3 zr_144_8 rfl ?_
                                    refine zw_18 zr_144_9 (by omega) ?_
                                    refine zw_16 zr_144_10 (by omega) ?_
                                    refine zw_3 zr_144_11 rfl ?_
                                    refine zw_16 zr_144_12 (by omega) ?_
                                    refine zw_48 (c := 70) (len := 826) zr_144_13 rfl rfl (by omega) (by omega) ?_
                                    intro x48 ex48
                                    have bx48 := ib_70_m5 hIm23 (k := (((90 + (6 * i37)) + 5)).toNat) (by omega)
                                    rw [← ex48] at bx48
                                    refine zw_R zr_144_14 (by decide) zm_144 (v := (0, x48)) rfl ?_
                                    rw [← hQ2]
                                    show zW E (d - 1) 181 15 [(2, 69), (0, i37)] [(0, x48)] m23 Q1
                                    refine zw_40_4 zr_181_15 ?_ ?_
                                    · intro h49
                                      refine zw_push zr_181_22 ?_
                                      refine zw_R zr_181_23 (by decide) zm_181 (v := (0, 0)) (zRetB (by omega)) ?_
                                      rw [← hQ1]
                                      show zW E (d) 191 105 [(2, 69), (0, a0), (0, a1), (0, a2), (0, i28), (0, i35), (0, i30), (0, i36), (0, i37), (9, 0)] [(0, 0)] m23 Q
                                      refine zw_40_1 zr_191_105 ?_ ?_
                                      · intro h50
                                        refine zw_15 (c := 1) (L' := [(2, 69), (0, a0), (0, a1), (0, a2), (0, i28), (0, i35), (0, i30), (0, i36), (0, (i37 + 1)), (9, 0)]) zr_191_179 rfl (by decide) (by omega) rfl ?_
                                        refine zw_42 zr_191_182 ?_
                                        exact zw_less (L := [(2, 69), (0, a0), (0, a1), (0, a2), (0, i28), (0, i35), (0, i30), (0, i36), (0, (i37 + 1)), (9, 0)]) ⟨Or.inr rfl, Or.inr rfl, Or.inr rfl, Or.inr rfl, Or.inr rfl, Or.inr rfl, Or.inr rfl, Or.inr rfl, Or.inr rfl, Or.inl rfl, trivial⟩ (ihlp90_38 (i35) (i36) ((i37 + 1))  (by omega) (by omega) (by omega) (by omega) (by omega) (by omega)  (by omega))
                                      · intro h51; omega
                                    · intro h52
                                      refine zw_push zr_181_18 ?_
                                      refine zw_42 zr_181_19 ?_
                                      refine zw_R zr_181_23 (by decide) zm_181 (v := (0, 1)) (zRetB (by omega)) ?_
                                      rw [← hQ1]
                                      show zW E (d) 191 105 [(2, 69), (0, a0), (0, a1), (0, a2), (0, i28), (0, i35), (0, i30), (0, i36), (0, i37), (9, 0)] [(0, 1)] m23 Q
                                      refine zw_40_1 zr_191_105 ?_ ?_
                                      · intro h53; omega
                                      · intro h54
                                        refine zw_7 zr_191_108 rfl ?_
                                        refine zw_4 zr_191_109 rfl ?_
                                        refine zw_4 zr_191_111 rfl ?_
                                        refine zw_C zr_191_113 (Or.inl rfl) zm_171 rfl rfl ⟨Nat.le_of_ble_eq_true rfl, Nat.le_of_ble_eq_true rfl, Nat.le_of_ble_eq_true rfl, rfl, by decide⟩ (by omega) (P := (fun v m' => zW E (d) 191 116 [(2, 69), (0, a0), (0, a1), (0, a2), (0, i28), (0, i35), (0, i30), (0, i36), (0, i37), (9, 0)] (if v.1 = 9 then [] else v :: []) m' Q)) ?_ (fun _ _ h => h)
                                        generalize hQ1 : (fun v m' => zW E (d) 191 116 [(2, 69), (0, a0), (0, a1), (0, a2), (0, i28), (0, i35), (0, i30), (0, i36), (0, i37), (9, 0)] (if v.1 = 9 then [] else v :: []) m' Q) = Q1
                                        show zW E (d - 1) 171 0 [(2, 69), (0, i37), (0, i28)] [] m23 Q1
                                        refine zw_7 zr_171_0 rfl ?_
                                        refine zw_3 zr_171_1 rfl ?_
                                        refine zw_push zr_171_2 ?_
                                        refine zw_C zr_171_3 (Or.inl rfl) zm_144 rfl rfl ⟨Nat.le_of_ble_eq_true rfl, Nat.le_of_ble_eq_true rfl, Nat.le_of_ble_eq_true rfl, rfl, by decide⟩ (by omega) (P := (fun v m' => zW E (d - 1) 171 6 [(2, 69), (0, i37), (0, i28)] (if v.1 = 9 then [] else v :: []) m' Q1)) ?_ (fun _ _ h => h)
                                        generalize hQ2 : (fun v m' => zW E (d - 1) 171 6 [(2, 69), (0, i37), (0, i28)] (if v.1 = 9 then [] else v :: []) m' Q1) = Q2
                                        show zW E (d - 1 - 1) 144 0 [(2, 69), (0, i37), (0, 1)] [] m23 Q2
                                        refine zw_7 zr_144_0 rfl ?_
                                        refine zw_46r (s := 70) zr_144_1 rfl rfl rfl rfl ?_
                                        refine zw_push zr_144_4 ?_
                                        refine zw_push zr_144_6 ?_
                                        refine zw_3 zr_144_8 rfl ?_
                                        refine zw_18 zr_144_9 (by omega) ?_
                                        refine zw_16 zr_144_10 (by omega) ?_
                                        refine zw_3 zr_144_11 rfl ?_
                                        refine zw_16 zr_144_12 (by omega) ?_
                                        refine zw_48 (c := 70) (len := 826) zr_144_13 rfl rfl (by omega) (by omega) ?_
                                        intro x55 ex55
                                        have bx55 := ib_70_m1 hIm23 (k := (((90 + (6 * i37)) + 1)).toNat) (by omega)
                                        rw [← ex55] at bx55
                                        refine zw_R zr_144_14 (by decide) zm_144 (v := (0, x55)) rfl ?_
                                        rw [← hQ2]
                                        show zW E (d - 1) 171 6 [(2, 69), (0, i37), (0, i28)] [(0, x55)] m23 Q1
                                        refine zw_3 zr_171_6 rfl ?_
                                        refine zw_41_1 zr_171_7 ?_ ?_
                                        · intro h56
                                          refine zw_push zr_171_20 ?_
                                          refine zw_42 zr_171_21 ?_
                                          refine zw_R zr_171_25 (by decide) zm_171 (v := (0, 1)) (zRetB (by omega)) ?_
                                          rw [← hQ1]
                                          show zW E (d) 191 116 [(2, 69), (0, a0), (0, a1), (0, a2), (0, i28), (0, i35), (0, i30), (0, i36), (0, i37), (9, 0)] [(0, 1)] m23 Q
                                          refine zw_40_1 zr_191_116 ?_ ?_
                                          · intro h57; omega
                                          · intro h58
                                            refine zw_7 zr_191_119 rfl ?_
                                            refine zw_4 zr_191_120 rfl ?_
                                            refine zw_push zr_191_122 ?_
                                            refine zw_C zr_191_123 (Or.inl rfl) zm_144 rfl rfl ⟨Nat.le_of_ble_eq_true rfl, Nat.le_of_ble_eq_true rfl, Nat.le_of_ble_eq_true rfl, rfl, by decide⟩ (by omega) (P := (fun v m' => zW E (d) 191 126 [(2, 69), (0, a0), (0, a1), (0, a2), (0, i28), (0, i35), (0, i30), (0, i36), (0, i37), (9, 0)] (if v.1 = 9 then [] else v :: []) m' Q)) ?_ (fun _ _ h => h)
                                            generalize hQ1 : (fun v m' => zW E (d) 191 126 [(2, 69), (0, a0), (0, a1), (0, a2), (0, i28), (0, i35), (0, i30), (0, i36), (0, i37), (9, 0)] (if v.1 = 9 then [] else v :: []) m' Q) = Q1
                                            show zW E (d - 1) 144 0 [(2, 69), (0, i37), (0, 1)] [] m23 Q1
                                            refine zw_7 zr_144_0 rfl ?_
                                            refine zw_46r (s := 70) zr_144_1 rfl rfl rfl rfl ?_
                                            refine zw_push zr_144_4 ?_
                                            refine zw_push zr_144_6 ?_
                                            refine zw_3 zr_144_8 rfl ?_
                                            refine zw_18 zr_144_9 (by omega) ?_
                                            refine zw_16 zr_144_10 (by omega) ?_
                                            refine zw_3 zr_144_11 rfl ?_
                                            refine zw_16 zr_144_12 (by omega) ?_
                                            refine zw_48k (c := 70) (len := 826) zr_144_13 rfl rfl (by omega) (by omega) rfl ex55.symm ?_
                                            refine zw_R zr_144_14 (by decide) zm_144 (v := (0, x55)) rfl ?_
                                            rw [← hQ1]
                                            show zW E (d) 191 126 [(2, 69), (0, a0), (0, a1), (0, a2), (0, i28), (0, i35), (0, i30), (0, i36), (0, i37), (9, 0)] [(0, x55)] m23 Q
                                            refine zw_7 zr_191_126 rfl ?_
                                            refine zw_4 zr_191_127 rfl ?_
                                            refine zw_push zr_191_129 ?_
                                            refine zw_C zr_191_130 (Or.inl rfl) zm_144 rfl rfl ⟨Nat.le_of_ble_eq_true rfl, Nat.le_of_ble_eq_true rfl, Nat.le_of_ble_eq_true rfl, rfl, by decide⟩ (by omega) (P := (fun v m' => zW E (d) 191 133 [(2, 69), (0, a0), (0, a1), (0, a2), (0, i28), (0, i35), (0, i30), (0, i36), (0, i37), (9, 0)] (if v.1 = 9 then [(0, x55)] else v :: [(0, x55)]) m' Q)) ?_ (fun _ _ h => h)
                                            generalize hQ1 : (fun v m' => zW E (d) 191 133 [(2, 69), (0, a0), (0, a1), (0, a2), (0, i28), (0, i35), (0, i30), (0, i36), (0, i37), (9, 0)] (if v.1 = 9 then [(0, x55)] else v :: [(0, x55)]) m' Q) = Q1
                                            show zW E (d - 1) 144 0 [(2, 69), (0, i37), (0, 2)] [] m23 Q1
                                            refine zw_7 zr_144_0 rfl ?_
                                            refine zw_46r (s := 70) zr_144_1 rfl rfl rfl rfl ?_
                                            refine zw_push zr_144_4 ?_
                                            refine zw_push zr_144_6 ?_
                                            refine zw_3 zr_144_8 rfl ?_
                                            refine zw_18 zr_144_9 (by omega) ?_
                                            refine zw_16 zr_144_10 (by omega) ?_
                                            refine zw_3 zr_144_11 rfl ?_
                                            refine zw_16 zr_144_12 (by omega) ?_
                                            refine zw_48 (c := 70) (len := 826) zr_144_13 rfl rfl (by omega) (by omega) ?_
                                            intro x59 ex59
                                            have bx59 := ib_70_m2 hIm23 (k := (((90 + (6 * i37)) + 2)).toNat) (by omega)
                                            rw [← ex59] at bx59
                                            clear ex59
                                            refine zw_R zr_144_14 (by decide) zm_144 (v := (0, x59)) rfl ?_
                                            rw [← hQ1]
                                            show zW E (d) 191 133 [(2, 69), (0, a0), (0, a1), (0, a2), (0, i28), (0, i35), (0, i30), (0, i36), (0, i37), (9, 0)] [(0, x59), (0, x55)] m23 Q
                                            refine zw_16 zr_191_133 (by omega) ?_
                                            refine zw_4 zr_191_134 rfl ?_
                                            refine zw_17 zr_191_136 (by omega) ?_
                                            refine zw_10 (L' := [(2, 69), (0, a0), (0, a1), (0, a2), (0, i28), (0, i35), (0, i30), (0, i36), (0, i37), (0, ((x55 + x59) - i28))]) zr_191_137 (Nat.le_of_ble_eq_true rfl) rfl ?_
                                            refine zw_7 zr_191_139 rfl ?_
                                            refine zw_46r (s := 81) zr_191_140 rfl rfl rfl rfl ?_
                                            refine zw_4 zr_191_143 rfl ?_
                                            refine zw_48 (c := 81) (len := 10) zr_191_145 rfl rfl (by omega) (by omega) ?_
                                            intro x60 ex60
                                            have bx60 := ib_81 hIm23 (k := (((x55 + x59) - i28)).toNat) (by omega)
                                            rw [← ex60] at bx60
                                            clear ex60
                                            refine zw_7 zr_191_146 rfl ?_
                                            refine zw_46r (s := 81) zr_191_147 rfl rfl rfl rfl ?_
                                            refine zw_4 zr_191_150 rfl ?_
                                            refine zw_48 (c := 81) (len := 10) zr_191_152 rfl rfl (by omega) (by omega) ?_
                                            intro x61 ex61
                                            have bx61 := ib_81 hIm23 (k := (i28).toNat) (by omega)
                                            rw [← ex61] at bx61
                                            clear ex61
                                            refine zw_push zr_191_153 ?_
                                            refine zw_17 zr_191_154 (by omega) ?_
                                            refine zw_41_4 zr_191_155 ?_ ?_
                                            · intro h62
                                              refine zw_15 (c := 1) (L' := [(2, 69), (0, a0), (0, a1), (0, a2), (0, i28), (0, i35), (0, i30), (0, i36), (0, (i37 + 1)), (0, ((x55 + x59) - i28))]) zr_191_179 rfl (by decide) (by omega) rfl ?_
                                              refine zw_42 zr_191_182 ?_
                                              exact zw_less (L := [(2, 69), (0, a0), (0, a1), (0, a2), (0, i28), (0, i35), (0, i30), (0, i36), (0, (i37 + 1)), (9, 0)]) ⟨Or.inr rfl, Or.inr rfl, Or.inr rfl, Or.inr rfl, Or.inr rfl, Or.inr rfl, Or.inr rfl, Or.inr rfl, Or.inr rfl, Or.inl rfl, trivial⟩ (ihlp90_38 (i35) (i36) ((i37 + 1))  (by omega) (by omega) (by omega) (by omega) (by omega) (by omega)  (by omega))
                                            · intro h63
                                              refine zw_4 zr_191_158 rfl ?_
                                              refine zw_push zr_191_160 ?_
                                              refine zw_41_1 zr_191_161 ?_ ?_
                                              · intro h64
                                                refine zw_4 zr_191_171 rfl ?_
                                                refine zw_10 (L' := [(2, 69), (0, a0), (0, a1), (0, a2), (0, i28), (0, i35), (0, i30), (0, ((x55 + x59) - i28)), (0, i37), (0, ((x55 + x59) - i28))]) zr_191_173 (Nat.le_of_ble_eq_true rfl) rfl ?_
                                                refine zw_4 zr_191_175 rfl ?_
                                                refine zw_10 (L' := [(2, 69), (0, a0), (0, a1), (0, a2), (0, i28), (0, i37), (0, i30), (0, ((x55 + x59) - i28)), (0, i37), (0, ((x55 + x59) - i28))]) zr_191_177 (Nat.le_of_ble_eq_true rfl) rfl ?_
                                                refine zw_15 (c := 1) (L' := [(2, 69), (0, a0), (0, a1), (0, a2), (0, i28), (0, i37), (0, i30), (0, ((x55 + x59) - i28)), (0, (i37 + 1)), (0, ((x55 + x59) - i28))]) zr_191_179 rfl (by decide) (by omega) rfl ?_
                                                refine zw_42 zr_191_182 ?_
                                                exact zw_less (L := [(2, 69), (0, a0), (0, a1), (0, a2), (0, i28), (0, i37), (0, i30), (0, ((x55 + x59) - i28)), (0, (i37 + 1)), (9, 0)]) ⟨Or.inr rfl, Or.inr rfl, Or.inr rfl, Or.inr rfl, Or.inr rfl, Or.inr rfl, Or.inr rfl, Or.inr rfl, Or.inr rfl, Or.inl rfl, trivial⟩ (ihlp90_38 (i37) (((x55 + x59) - i28)) ((i37 + 1))  (by omega) (by omega) (by omega) (by omega) (by omega) (by omega)  (by omega))
                                              · intro h65
                                                refine zw_4 zr_191_164 rfl ?_
                                                refine zw_4 zr_191_166 rfl ?_
                                                refine zw_41_3 zr_191_168 ?_ ?_
                                                · intro h66
                                                  refine zw_15 (c := 1) (L' := [(2, 69), (0, a0), (0, a1), (0, a2), (0, i28), (0, i35), (0, i30), (0, i36), (0, (i37 + 1)), (0, ((x55 + x59) - i28))]) zr_191_179 rfl (by decide) (by omega) rfl ?_
                                                  refine zw_42 zr_191_182 ?_
                                                  exact zw_less (L := [(2, 69), (0, a0), (0, a1), (0, a2), (0, i28), (0, i35), (0, i30), (0, i36), (0, (i37 + 1)), (9, 0)]) ⟨Or.inr rfl, Or.inr rfl, Or.inr rfl, Or.inr rfl, Or.inr rfl, Or.inr rfl, Or.inr rfl, Or.inr rfl, Or.inr rfl, Or.inl rfl, trivial⟩ (ihlp90_38 (i35) (i36) ((i37 + 1))  (by omega) (by omega) (by omega) (by omega) (by omega) (by omega)  (by omega))
                                                · intro h67
                                                  refine zw_4 zr_191_171 rfl ?_
                                                  refine zw_10 (L' := [(2, 69), (0, a0), (0, a1), (0, a2), (0, i28), (0, i35), (0, i30), (0, ((x55 + x59) - i28)), (0, i37), (0, ((x55 + x59) - i28))]) zr_191_173 (Nat.le_of_ble_eq_true rfl) rfl ?_
                                                  refine zw_4 zr_191_175 rfl ?_
                                                  refine zw_10 (L' := [(2, 69), (0, a0), (0, a1), (0, a2), (0, i28), (0, i37), (0, i30), (0, ((x55 + x59) - i28)), (0, i37), (0, ((x55 + x59) - i28))]) zr_191_177 (Nat.le_of_ble_eq_true rfl) rfl ?_
                                                  refine zw_15 (c := 1) (L' := [(2, 69), (0, a0), (0, a1), (0, a2), (0, i28), (0, i37), (0, i30), (0, ((x55 + x59) - i28)), (0, (i37 + 1)), (0, ((x55 + x59) - i28))]) zr_191_179 rfl (by decide) (by omega) rfl ?_
                                                  refine zw_42 zr_191_182 ?_
                                                  exact zw_less (L := [(2, 69), (0, a0), (0, a1), (0, a2), (0, i28), (0, i37), (0, i30), (0, ((x55 + x59) - i28)), (0, (i37 + 1)), (9, 0)]) ⟨Or.inr rfl, Or.inr rfl, Or.inr rfl, Or.inr rfl, Or.inr rfl, Or.inr rfl, Or.inr rfl, Or.inr rfl, Or.inr rfl, Or.inl rfl, trivial⟩ (ihlp90_38 (i37) (((x55 + x59) - i28)) ((i37 + 1))  (by omega) (by omega) (by omega) (by omega) (by omega) (by omega)  (by omega))
                                        · intro h68
                                          refine zw_7 zr_171_10 rfl ?_
                                          refine zw_3 zr_171_11 rfl ?_
                                          refine zw_push zr_171_12 ?_
                                          refine zw_C zr_171_13 (Or.inl rfl) zm_144 rfl rfl ⟨Nat.le_of_ble_eq_true rfl, Nat.le_of_ble_eq_true rfl, Nat.le_of_ble_eq_true rfl, rfl, by decide⟩ (by omega) (P := (fun v m' => zW E (d - 1) 171 16 [(2, 69), (0, i37), (0, i28)] (if v.1 = 9 then [] else v :: []) m' Q1)) ?_ (fun _ _ h => h)
                                          generalize hQ2 : (fun v m' => zW E (d - 1) 171 16 [(2, 69), (0, i37), (0, i28)] (if v.1 = 9 then [] else v :: []) m' Q1) = Q2
                                          show zW E (d - 1 - 1) 144 0 [(2, 69), (0, i37), (0, 2)] [] m23 Q2
                                          refine zw_7 zr_144_0 rfl ?_
                                          refine zw_46r (s := 70) zr_144_1 rfl rfl rfl rfl ?_
                                          refine zw_push zr_144_4 ?_
                                          refine zw_push zr_144_6 ?_
                                          refine zw_3 zr_144_8 rfl ?_
                                          refine zw_18 zr_144_9 (by omega) ?_
                                          refine zw_16 zr_144_10 (by omega) ?_
                                          refine zw_3 zr_144_11 rfl ?_
                                          refine zw_16 zr_144_12 (by omega) ?_
                                          refine zw_48 (c := 70) (len := 826) zr_144_13 rfl rfl (by omega) (by omega) ?_
                                          intro x69 ex69
                                          have bx69 := ib_70_m2 hIm23 (k := (((90 + (6 * i37)) + 2)).toNat) (by omega)
                                          rw [← ex69] at bx69
                                          refine zw_R zr_144_14 (by decide) zm_144 (v := (0, x69)) rfl ?_
                                          rw [← hQ2]
                                          show zW E (d - 1) 171 16 [(2, 69), (0, i37), (0, i28)] [(0, x69)] m23 Q1
                                          refine zw_3 zr_171_16 rfl ?_
                                          refine zw_41_4 zr_171_17 ?_ ?_
                                          · intro h70
                                            refine zw_push zr_171_24 ?_
                                            refine zw_R zr_171_25 (by decide) zm_171 (v := (0, 0)) (zRetB (by omega)) ?_
                                            rw [← hQ1]
                                            show zW E (d) 191 116 [(2, 69), (0, a0), (0, a1), (0, a2), (0, i28), (0, i35), (0, i30), (0, i36), (0, i37), (9, 0)] [(0, 0)] m23 Q
                                            refine zw_40_1 zr_191_116 ?_ ?_
                                            · intro h71
                                              refine zw_15 (c := 1) (L' := [(2, 69), (0, a0), (0, a1), (0, a2), (0, i28), (0, i35), (0, i30), (0, i36), (0, (i37 + 1)), (9, 0)]) zr_191_179 rfl (by decide) (by omega) rfl ?_
                                              refine zw_42 zr_191_182 ?_
                                              exact zw_less (L := [(2, 69), (0, a0), (0, a1), (0, a2), (0, i28), (0, i35), (0, i30), (0, i36), (0, (i37 + 1)), (9, 0)]) ⟨Or.inr rfl, Or.inr rfl, Or.inr rfl, Or.inr rfl, Or.inr rfl, Or.inr rfl, Or.inr rfl, Or.inr rfl, Or.inr rfl, Or.inl rfl, trivial⟩ (ihlp90_38 (i35) (i36) ((i37 + 1))  (by omega) (by omega) (by omega) (by omega) (by omega) (by omega)  (by omega))
                                            · intro h72; omega
                                          · intro h73
                                            refine zw_push zr_171_20 ?_
                                            refine zw_42 zr_171_21 ?_
                                            refine zw_R zr_171_25 (by decide) zm_171 (v := (0, 1)) (zRetB (by omega)) ?_
                                            rw [← hQ1]
                                            show zW E (d) 191 116 [(2, 69), (0, a0), (0, a1), (0, a2), (0, i28), (0, i35), (0, i30), (0, i36), (0, i37), (9, 0)] [(0, 1)] m23 Q
                                            refine zw_40_1 zr_191_116 ?_ ?_
                                            · intro h74; omega
                                            · intro h75
                                              refine zw_7 zr_191_119 rfl ?_
                                              refine zw_4 zr_191_120 rfl ?_
                                              refine zw_push zr_191_122 ?_
                                              refine zw_C zr_191_123 (Or.inl rfl) zm_144 rfl rfl ⟨Nat.le_of_ble_eq_true rfl, Nat.le_of_ble_eq_true rfl, Nat.le_of_ble_eq_true rfl, rfl, by decide⟩ (by omega) (P := (fun v m' => zW E (d) 191 126 [(2, 69), (0, a0), (0, a1), (0, a2), (0, i28), (0, i35), (0, i30), (0, i36), (0, i37), (9, 0)] (if v.1 = 9 then [] else v :: []) m' Q)) ?_ (fun _ _ h => h)
                                              generalize hQ1 : (fun v m' => zW E (d) 191 126 [(2, 69), (0, a0), (0, a1), (0, a2), (0, i28), (0, i35), (0, i30), (0, i36), (0, i37), (9, 0)] (if v.1 = 9 then [] else v :: []) m' Q) = Q1
                                              show zW E (d - 1) 144 0 [(2, 69), (0, i37), (0, 1)] [] m23 Q1
                                              refine zw_7 zr_144_0 rfl ?_
                                              refine zw_46r (s := 70) zr_144_1 rfl rfl rfl rfl ?_
                                              refine zw_push zr_144_4 ?_
                                              refine zw_push zr_144_6 ?_
                                              refine zw_3 zr_144_8 rfl ?_
                                              refine zw_18 zr_144_9 (by omega) ?_
                                              refine zw_16 zr_144_10 (by omega) ?_
                                              refine zw_3 zr_144_11 rfl ?_
                                              refine zw_16 zr_144_12 (by omega) ?_
                                              refine zw_48k (c := 70) (len := 826) zr_144_13 rfl rfl (by omega) (by omega) rfl ex55.symm ?_
                                              refine zw_R zr_144_14 (by decide) zm_144 (v := (0, x55)) rfl ?_
                                              rw [← hQ1]
                                              show zW E (d) 191 126 [(2, 69), (0, a0), (0, a1), (0, a2), (0, i28), (0, i35), (0, i30), (0, i36), (0, i37), (9, 0)] [(0, x55)] m23 Q
                                              refine zw_7 zr_191_126 rfl ?_
                                              refine zw_4 zr_191_127 rfl ?_
                                              refine zw_push zr_191_129 ?_
                                              refine zw_C zr_191_130 (Or.inl rfl) zm_144 rfl rfl ⟨Nat.le_of_ble_eq_true rfl, Nat.le_of_ble_eq_true rfl, Nat.le_of_ble_eq_true rfl, rfl, by decide⟩ (by omega) (P := (fun v m' => zW E (d) 191 133 [(2, 69), (0, a0), (0, a1), (0, a2), (0, i28), (0, i35), (0, i30), (0, i36), (0, i37), (9, 0)] (if v.1 = 9 then [(0, x55)] else v :: [(0, x55)]) m' Q)) ?_ (fun _ _ h => h)
                                              generalize hQ1 : (fun v m' => zW E (d) 191 133 [(2, 69), (0, a0), (0, a1), (0, a2), (0, i28), (0, i35), (0, i30), (0, i36), (0, i37), (9, 0)] (if v.1 = 9 then [(0, x55)] else v :: [(0, x55)]) m' Q) = Q1
                                              show zW E (d - 1) 144 0 [(2, 69), (0, i37), (0, 2)] [] m23 Q1
                                              refine zw_7 zr_144_0 rfl ?_
                                              refine zw_46r (s := 70) zr_144_1 rfl rfl rfl rfl ?_
                                              refine zw_push zr_144_4 ?_
                                              refine zw_push zr_144_6 ?_
                                              refine zw_3 zr_144_8 rfl ?_
                                              refine zw_18 zr_144_9 (by omega) ?_
                                              refine zw_16 zr_144_10 (by omega) ?_
                                              refine zw_3 zr_144_11 rfl ?_
                                              refine zw_16 zr_144_12 (by omega) ?_
                                              refine zw_48k (c := 70) (len := 826) zr_144_13 rfl rfl (by omega) (by omega) rfl ex69.symm ?_
                                              refine zw_R zr_144_14 (by decide) zm_144 (v := (0, x69)) rfl ?_
                                              rw [← hQ1]
                                              show zW E (d) 191 133 [(2, 69), (0, a0), (0, a1), (0, a2), (0, i28), (0, i35), (0, i30), (0, i36), (0, i37), (9, 0)] [(0, x69), (0, x55)] m23 Q
                                              refine zw_16 zr_191_133 (by omega) ?_
                                              refine zw_4 zr_191_134 rfl ?_
                                              refine zw_17 zr_191_136 (by omega) ?_
                                              refine zw_10 (L' := [(2, 69), (0, a0), (0, a1), (0, a2), (0, i28), (0, i35), (0, i30), (0, i36), (0, i37), (0, ((x55 + x69) - i28))]) zr_191_137 (Nat.le_of_ble_eq_true rfl) rfl ?_
                                              refine zw_7 zr_191_139 rfl ?_
                                              refine zw_46r (s := 81) zr_191_140 rfl rfl rfl rfl ?_
                                              refine zw_4 zr_191_143 rfl ?_
                                              refine zw_48 (c := 81) (len := 10) zr_191_145 rfl rfl (by omega) (by omega) ?_
                                              intro x76 ex76
                                              have bx76 := ib_81 hIm23 (k := (((x55 + x69) - i28)).toNat) (by omega)
                                              rw [← ex76] at bx76
                                              clear ex76
                                              refine zw_7 zr_191_146 rfl ?_
                                              refine zw_46r (s := 81) zr_191_147 rfl rfl rfl rfl ?_
                                              refine zw_4 zr_191_150 rfl ?_
                                              refine zw_48 (c := 81) (len := 10) zr_191_152 rfl rfl (by omega) (by omega) ?_
                                              intro x77 ex77
                                              have bx77 := ib_81 hIm23 (k := (i28).toNat) (by omega)
                                              rw [← ex77] at bx77
                                              clear ex77
                                              refine zw_push zr_191_153 ?_
                                              refine zw_17 zr_191_154 (by omega) ?_
                                              refine zw_41_4 zr_191_155 ?_ ?_
                                              · intro h78
                                                refine zw_15 (c := 1) (L' := [(2, 69), (0, a0), (0, a1), (0, a2), (0, i28), (0, i35), (0, i30), (0, i36), (0, (i37 + 1)), (0, ((x55 + x69) - i28))]) zr_191_179 rfl (by decide) (by omega) rfl ?_
                                                refine zw_42 zr_191_182 ?_
                                                exact zw_less (L := [(2, 69), (0, a0), (0, a1), (0, a2), (0, i28), (0, i35), (0, i30), (0, i36), (0, (i37 + 1)), (9, 0)]) ⟨Or.inr rfl, Or.inr rfl, Or.inr rfl, Or.inr rfl, Or.inr rfl, Or.inr rfl, Or.inr rfl, Or.inr rfl, Or.inr rfl, Or.inl rfl, trivial⟩ (ihlp90_38 (i35) (i36) ((i37 + 1))  (by omega) (by omega) (by omega) (by omega) (by omega) (by omega)  (by omega))
                                              · intro h79
                                                refine zw_4 zr_191_158 rfl ?_
                                                refine zw_push zr_191_160 ?_
                                                refine zw_41_1 zr_191_161 ?_ ?_
                                                · intro h80
                                                  refine zw_4 zr_191_171 rfl ?_
                                                  refine zw_10 (L' := [(2, 69), (0, a0), (0, a1), (0, a2), (0, i28), (0, i35), (0, i30), (0, ((x55 + x69) - i28)), (0, i37), (0, ((x55 + x69) - i28))]) zr_191_173 (Nat.le_of_ble_eq_true rfl) rfl ?_
                                                  refine zw_4 zr_191_175 rfl ?_
                                                  refine zw_10 (L' := [(2, 69), (0, a0), (0, a1), (0, a2), (0, i28), (0, i37), (0, i30), (0, ((x55 + x69) - i28)), (0, i37), (0, ((x55 + x69) - i28))]) zr_191_177 (Nat.le_of_ble_eq_true rfl) rfl ?_
                                                  refine zw_15 (c := 1) (L' := [(2, 69), (0, a0), (0, a1), (0, a2), (0, i28), (0, i37), (0, i30), (0, ((x55 + x69) - i28)), (0, (i37 + 1)), (0, ((x55 + x69) - i28))]) zr_191_179 rfl (by decide) (by omega) rfl ?_
                                                  refine zw_42 zr_191_182 ?_
                                                  exact zw_less (L := [(2, 69), (0, a0), (0, a1), (0, a2), (0, i28), (0, i37), (0, i30), (0, ((x55 + x69) - i28)), (0, (i37 + 1)), (9, 0)]) ⟨Or.inr rfl, Or.inr rfl, Or.inr rfl, Or.inr rfl, Or.inr rfl, Or.inr rfl, Or.inr rfl, Or.inr rfl, Or.inr rfl, Or.inl rfl, trivial⟩ (ihlp90_38 (i37) (((x55 + x69) - i28)) ((i37 + 1))  (by omega) (by omega) (by omega) (by omega) (by omega) (by omega)  (by omega))
                                                · intro h81
                                                  refine zw_4 zr_191_164 rfl ?_
                                                  refine zw_4 zr_191_166 rfl ?_
                                                  refine zw_41_3 zr_191_168 ?_ ?_
                                                  · intro h82
                                                    refine zw_15 (c := 1) (L' := [(2, 69), (0, a0), (0, a1), (0, a2), (0, i28), (0, i35), (0, i30), (0, i36), (0, (i37 + 1)), (0, ((x55 + x69) - i28))]) zr_191_179 rfl (by decide) (by omega) rfl ?_
                                                    refine zw_42 zr_191_182 ?_
                                                    exact zw_less (L := [(2, 69), (0, a0), (0, a1), (0, a2), (0, i28), (0, i35), (0, i30), (0, i36), (0, (i37 + 1)), (9, 0)]) ⟨Or.inr rfl, Or.inr rfl, Or.inr rfl, Or.inr rfl, Or.inr rfl, Or.inr rfl, Or.inr rfl, Or.inr rfl, Or.inr rfl, Or.inl rfl, trivial⟩ (ihlp90_38 (i35) (i36) ((i37 + 1))  (by omega) (by omega) (by omega) (by omega) (by omega) (by omega)  (by omega))
                                                  · intro h83
                                                    refine zw_4 zr_191_171 rfl ?_
                                                    refine zw_10 (L' := [(2, 69), (0, a0), (0, a1), (0, a2), (0, i28), (0, i35), (0, i30), (0, ((x55 + x69) - i28)), (0, i37), (0, ((x55 + x69) - i28))]) zr_191_173 (Nat.le_of_ble_eq_true rfl) rfl ?_
                                                    refine zw_4 zr_191_175 rfl ?_
                                                    refine zw_10 (L' := [(2, 69), (0, a0), (0, a1), (0, a2), (0, i28), (0, i37), (0, i30), (0, ((x55 + x69) - i28)), (0, i37), (0, ((x55 + x69) - i28))]) zr_191_177 (Nat.le_of_ble_eq_true rfl) rfl ?_
                                                    refine zw_15 (c := 1) (L' := [(2, 69), (0, a0), (0, a1), (0, a2), (0, i28), (0, i37), (0, i30), (0, ((x55 + x69) - i28)), (0, (i37 + 1)), (0, ((x55 + x69) - i28))]) zr_191_179 rfl (by decide) (by omega) rfl ?_
                                                    refine zw_42 zr_191_182 ?_
                                                    exact zw_less (L := [(2, 69), (0, a0), (0, a1), (0, a2), (0, i28), (0, i37), (0, i30), (0, ((x55 + x69) - i28)), (0, (i37 + 1)), (9, 0)]) ⟨Or.inr rfl, Or.inr rfl, Or.inr rfl, Or.inr rfl, Or.inr rfl, Or.inr rfl, Or.inr rfl, Or.inr rfl, Or.inr rfl, Or.inl rfl, trivial⟩ (ihlp90_38 (i37) (((x55 + x69) - i28)) ((i37 + 1))  (by omega) (by omega) (by omega) (by omega) (by omega) (by omega)  (by omega))
                            exact lp90_38 _ (i29) ((-1)) (0)  (by omega) (by omega) (by omega) (by omega) (by omega) (by omega)  (Nat.lt_succ_self _)
                      exact lp78_31 _ (a0) ((-1)) (0)  (by omega) (by omega) (by omega) (by omega) (by omega) (by omega)  (Nat.lt_succ_self _)
                    · intro h84
                      refine zw_push zr_191_66 ?_
                      refine zw_R zr_191_68 (by decide) zm_191 (v := (0, (-5))) rfl ?_
                      rw [← hQ]; exact ⟨_, rfl, by omega, by omega, hIm23, hFm23⟩
                  · intro h85
                    refine zw_7 zr_191_49 rfl ?_
                    refine zw_46r (s := 81) zr_191_50 rfl rfl rfl rfl ?_
                    refine zw_3 zr_191_53 rfl ?_
                    refine zw_48k (c := 81) (len := 10) zr_191_54 rfl rfl (by omega) (by omega) rfl ex24.symm ?_
                    refine zw_R zr_191_55 (by decide) zm_191 (v := (0, x24)) rfl ?_
                    rw [← hQ]; exact ⟨_, rfl, by omega, by omega, hIm23, hFm23⟩
                · intro h86
                  refine zw_push zr_191_41 ?_
                  refine zw_R zr_191_43 (by decide) zm_191 (v := (0, (-5))) rfl ?_
                  rw [← hQ]; exact ⟨_, rfl, by omega, by omega, hIm23, hFm23⟩
              · intro h87
                refine zw_push zr_191_21 ?_
                refine zw_R zr_191_23 (by decide) zm_191 (v := (0, (-10))) rfl ?_
                rw [← hQ]; exact ⟨_, rfl, by omega, by omega, hI0, hF0⟩

abbrev W_76 : List (Nat × Nat) := [(61, 1000), (62, 1000)]
set_option maxHeartbeats 8000000 in
theorem th_76 {E : zE} {d : Nat} {m0 : zM} (hd : 3 ≤ d) (hI0 : zInv m0) : zC E d 76 [(2, 60)] m0 (fun v m' => ∃ r : Int, v = (1, r) ∧ (-9223372036854775808) ≤ r ∧ r ≤ 9223372036854775807 ∧ zInv m' ∧ zFr W_76 m0 m') := by
  have hF0 : zFr W_76 m0 m0 := zFr.rfl
  generalize hQ : (fun (v : zV) (m' : zM) => ∃ r : Int, v = (1, r) ∧ (-9223372036854775808) ≤ r ∧ r ≤ 9223372036854775807 ∧ zInv m' ∧ zFr W_76 m0 m') = Q
  show zW E d 76 0 [(2, 60), (9, 0), (9, 0), (9, 0), (9, 0), (9, 0), (9, 0), (9, 0)] [] m0 Q
  refine zw_7 zr_76_0 rfl ?_
  refine zw_46r (s := 1) zr_76_1 rfl rfl rfl rfl ?_
  refine zw_C zr_76_4 (Or.inl rfl) zm_53 rfl rfl ⟨Nat.le_of_ble_eq_true rfl, Nat.le_of_ble_eq_true rfl, Nat.le_of_ble_eq_true rfl, rfl, by decide⟩ (by omega) (th_53 (d := d - 1) (by omega) hI0        ) ?_
  rintro _ _ ⟨r1, rfl, hr1a, hr1b, rfl⟩
  show zW E (d) 76 7 [(2, 60), (9, 0), (9, 0), (9, 0), (9, 0), (9, 0), (9, 0), (9, 0)] [(1, r1)] m0 Q
  refine zw_13 (L' := [(2, 60), (1, r1), (9, 0), (9, 0), (9, 0), (9, 0), (9, 0), (9, 0)]) zr_76_7 (Nat.le_of_ble_eq_true rfl) rfl ?_
  refine zw_push zr_76_8 ?_
  refine zw_13 (L' := [(2, 60), (1, r1), (9, 0), (1, 0), (9, 0), (9, 0), (9, 0), (9, 0)]) zr_76_9 (Nat.le_of_ble_eq_true rfl) rfl ?_
  refine zw_push zr_76_10 ?_
  refine zw_10 (L' := [(2, 60), (1, r1), (9, 0), (1, 0), (9, 0), (0, 0), (9, 0), (9, 0)]) zr_76_11 (Nat.le_of_ble_eq_true rfl) rfl ?_
  have lp13_5 : ∀ (nlp13_5 : Nat) (i2 i3 : Int) (m4 : zM), zInv m4 → zFr W_76 m0 m4 → (-9223372036854775808) ≤ i2 → i2 ≤ 9223372036854775807 → 0 ≤ i3 → i3 ≤ 60 → (60 - i3).toNat < nlp13_5 → zW E (d) 76 13 [(2, 60), (1, r1), (9, 0), (1, i2), (9, 0), (0, i3), (9, 0), (9, 0)] [] m4 Q := by
    intro nlp13_5
    induction nlp13_5 with
    | zero =>
      intros
      exact absurd (by assumption : _ < 0) (Nat.not_lt_zero _)
    | succ nlp13_5 ihlp13_5 =>
      intro i2 i3 m4 hIm4 hFm4 li2 ui2 li3 ui3 hmlp13_5
      refine zw_4 zr_76_13 rfl ?_
      refine zw_7 zr_76_15 rfl ?_
      refine zw_46r (s := 1) zr_76_16 rfl rfl rfl rfl ?_
      obtain ⟨f7, ef7⟩ : ∃ v, m4 1 1 = v := ⟨_, rfl⟩
      have bf7 := ib_1_1 hIm4
      rw [ef7] at bf7
      refine zw_46i zr_76_19 ef7 rfl rfl rfl ?_
      refine zw_41_3 zr_76_22 ?_ ?_
      · intro h8
        refine zw_5 zr_76_100 rfl ?_
        refine zw_R zr_76_101 (by decide) zm_76 (v := (1, i2)) rfl ?_
        rw [← hQ]; exact ⟨_, rfl, by omega, by omega, hIm4, hFm4⟩
      · intro h9
        refine zw_push zr_76_25 ?_
        refine zw_4 zr_76_26 rfl ?_
        refine zw_33p zr_76_28 (by omega) ?_
        intro x10 ex10 hx10a hx10b
        refine zw_14 (L' := [(2, 60), (1, r1), (9, 0), (1, i2), (9, 0), (0, i3), (1, x10), (9, 0)]) zr_76_29 (Nat.le_of_ble_eq_true rfl) rfl ?_
        refine zw_5 zr_76_31 rfl ?_
        refine zw_6 zr_76_32 rfl ?_
        refine zw_30h zr_76_34 ?_
        intro x11 hx11a hx11b
        refine zw_push zr_76_35 ?_
        refine zw_39_1 zr_76_36 zr_76_37 ?_ ?_
        · intro h12
          refine zw_15 (c := 1) (L' := [(2, 60), (1, r1), (9, 0), (1, i2), (9, 0), (0, (i3 + 1)), (1, x10), (9, 0)]) zr_76_94 rfl (by decide) (by omega) rfl ?_
          refine zw_42 zr_76_97 ?_
          exact zw_less (L := [(2, 60), (1, r1), (9, 0), (1, i2), (9, 0), (0, (i3 + 1)), (9, 0), (9, 0)]) ⟨Or.inr rfl, Or.inr rfl, Or.inl rfl, Or.inr rfl, Or.inl rfl, Or.inr rfl, Or.inl rfl, Or.inl rfl, trivial⟩ (ihlp13_5 (i2) ((i3 + 1)) m4 hIm4 hFm4   (by omega) (by omega) (by omega) (by omega)  (by omega))
        · intro h13
          refine zw_7 zr_76_40 rfl ?_
          refine zw_5 zr_76_41 rfl ?_
          refine zw_6 zr_76_42 rfl ?_
          refine zw_push zr_76_44 ?_
          refine zw_32h zr_76_47 ?_
          intro x14 hx14a hx14b
          refine zw_30h zr_76_48 ?_
          intro x15 hx15a hx15b
          refine zw_C zr_76_49 (Or.inl rfl) zm_66 rfl rfl ⟨Nat.le_of_ble_eq_true rfl, Nat.le_of_ble_eq_true rfl, Nat.le_of_ble_eq_true rfl, rfl, by decide⟩ (by omega) (th_66 (d := d - 1) (by omega) hIm4 (a0 := x15)      (by omega) ) ?_
          rintro _ m16 ⟨rfl, hIm16, gm16⟩
          have hFm16 : zFr W_76 m0 m16 := hFm4.trans gm16 rfl
          have km16_1_1 : m16 1 1 = f7 := (gm16 1 1 rfl).trans ef7
          show zW E (d) 76 52 [(2, 60), (1, r1), (9, 0), (1, i2), (9, 0), (0, i3), (1, x10), (9, 0)] [] m16 Q
          refine zw_7 zr_76_52 rfl ?_
          refine zw_7 zr_76_53 rfl ?_
          refine zw_46r (s := 1) zr_76_54 rfl rfl rfl rfl ?_
          refine zw_46r (s := 6) zr_76_57 rfl rfl rfl rfl ?_
          refine zw_4 zr_76_60 rfl ?_
          refine zw_48 (c := 6) (len := 60) zr_76_62 rfl rfl (by omega) (by omega) ?_
          intro x17 ex17
          have bx17 := ib_6 hIm16 (k := (i3).toNat) (by omega)
          rw [← ex17] at bx17
          clear ex17
          refine zw_C zr_76_63 (Or.inl rfl) zm_67 rfl rfl ⟨Nat.le_of_ble_eq_true rfl, Nat.le_of_ble_eq_true rfl, Nat.le_of_ble_eq_true rfl, rfl, by decide⟩ (by omega) (th_67 (d := d - 1) (by omega) hIm16 (a0 := x17)      (by omega) ) ?_
          rintro _ m18 ⟨rfl, hIm18, gm18⟩
          have hFm18 : zFr W_76 m0 m18 := hFm16.trans gm18 rfl
          have km18_1_1 : m18 1 1 = f7 := (gm18 1 1 rfl).trans km16_1_1
          show zW E (d) 76 66 [(2, 60), (1, r1), (9, 0), (1, i2), (9, 0), (0, i3), (1, x10), (9, 0)] [] m18 Q
          refine zw_5 zr_76_66 rfl ?_
          refine zw_7 zr_76_67 rfl ?_
          refine zw_46r (s := 62) zr_76_68 rfl rfl rfl rfl ?_
          refine zw_7 zr_76_71 rfl ?_
          refine zw_46r (s := 1) zr_76_72 rfl rfl rfl rfl ?_
          refine zw_46r (s := 7) zr_76_75 rfl rfl rfl rfl ?_
          refine zw_4 zr_76_78 rfl ?_
          refine zw_48 (c := 7) (len := 60) zr_76_80 rfl rfl (by omega) (by omega) ?_
          intro x19 ex19
          have bx19 := ib_7 hIm18 (k := (i3).toNat) (by omega)
          rw [← ex19] at bx19
          clear ex19
          refine zw_48 (c := 62) (len := 10) zr_76_81 rfl rfl (by omega) (by omega) ?_
          intro x20 ex20
          have bx20 := hIm18.ra (c := 62) (len := 10) (k := (x19).toNat) rfl (by omega)
          rw [← ex20] at bx20
          clear ex20
          refine zw_push zr_76_82 ?_
          refine zw_41_4 zr_76_83 ?_ ?_
          · intro h21
            refine zw_push zr_76_91 ?_
            refine zw_31h zr_76_92 ?_
            intro x22 hx22a hx22b
            refine zw_13 (L' := [(2, 60), (1, r1), (9, 0), (1, x22), (9, 0), (0, i3), (1, x10), (9, 0)]) zr_76_93 (Nat.le_of_ble_eq_true rfl) rfl ?_
            refine zw_15 (c := 1) (L' := [(2, 60), (1, r1), (9, 0), (1, x22), (9, 0), (0, (i3 + 1)), (1, x10), (9, 0)]) zr_76_94 rfl (by decide) (by omega) rfl ?_
            refine zw_42 zr_76_97 ?_
            exact zw_less (L := [(2, 60), (1, r1), (9, 0), (1, x22), (9, 0), (0, (i3 + 1)), (9, 0), (9, 0)]) ⟨Or.inr rfl, Or.inr rfl, Or.inl rfl, Or.inr rfl, Or.inl rfl, Or.inr rfl, Or.inl rfl, Or.inl rfl, trivial⟩ (ihlp13_5 (x22) ((i3 + 1)) m18 hIm18 hFm18   (by omega) (by omega) (by omega) (by omega)  (by omega))
          · intro h23
            refine zw_6 zr_76_86 rfl ?_
            refine zw_42 zr_76_88 ?_
            refine zw_31h zr_76_92 ?_
            intro x24 hx24a hx24b
            refine zw_13 (L' := [(2, 60), (1, r1), (9, 0), (1, x24), (9, 0), (0, i3), (1, x10), (9, 0)]) zr_76_93 (Nat.le_of_ble_eq_true rfl) rfl ?_
            refine zw_15 (c := 1) (L' := [(2, 60), (1, r1), (9, 0), (1, x24), (9, 0), (0, (i3 + 1)), (1, x10), (9, 0)]) zr_76_94 rfl (by decide) (by omega) rfl ?_
            refine zw_42 zr_76_97 ?_
            exact zw_less (L := [(2, 60), (1, r1), (9, 0), (1, x24), (9, 0), (0, (i3 + 1)), (9, 0), (9, 0)]) ⟨Or.inr rfl, Or.inr rfl, Or.inl rfl, Or.inr rfl, Or.inl rfl, Or.inr rfl, Or.inl rfl, Or.inl rfl, trivial⟩ (ihlp13_5 (x24) ((i3 + 1)) m18 hIm18 hFm18   (by omega) (by omega) (by omega) (by omega)  (by omega))
  exact lp13_5 _ (0) (0) m0 hI0 hF0   (by omega) (by omega) (by omega) (by omega)  (Nat.lt_succ_self _)

abbrev W_122 : List (Nat × Nat) := [(61, 1000), (62, 1000)]
set_option maxHeartbeats 8000000 in
theorem th_122 {E : zE} {d : Nat} {m0 : zM} (hd : 4 ≤ d) (hI0 : zInv m0) : zC E d 122 [(2, 0)] m0 (fun v m' => ∃ r : Int, v = (1, r) ∧ (-9223372036854775808) ≤ r ∧ r ≤ 9223372036854775807 ∧ zInv m' ∧ zFr W_122 m0 m') := by
  have hF0 : zFr W_122 m0 m0 := zFr.rfl
  generalize hQ : (fun (v : zV) (m' : zM) => ∃ r : Int, v = (1, r) ∧ (-9223372036854775808) ≤ r ∧ r ≤ 9223372036854775807 ∧ zInv m' ∧ zFr W_122 m0 m') = Q
  show zW E d 122 0 [(2, 0)] [] m0 Q
  refine zw_7 zr_122_0 rfl ?_
  refine zw_46r (s := 60) zr_122_1 rfl rfl rfl rfl ?_
  refine zw_C zr_122_4 (Or.inl rfl) zm_76 rfl rfl ⟨Nat.le_of_ble_eq_true rfl, Nat.le_of_ble_eq_true rfl, Nat.le_of_ble_eq_true rfl, rfl, by decide⟩ (by omega) (th_76 (d := d - 1) (by omega) hI0        ) ?_
  rintro _ m1 ⟨r2, rfl, hr2a, hr2b, hIm1, gm1⟩
  have hFm1 : zFr W_122 m0 m1 := hF0.trans gm1 rfl
  show zW E (d) 122 7 [(2, 0)] [(1, r2)] m1 Q
  refine zw_R zr_122_7 (by decide) zm_122 (v := (1, r2)) rfl ?_
  rw [← hQ]; exact ⟨_, rfl, by omega, by omega, hIm1, hFm1⟩

abbrev W_192 : List (Nat × Nat) := [(81, 1000)]
set_option maxHeartbeats 8000000 in
theorem th_192 {E : zE} {d : Nat} {m0 : zM} (hd : 4 ≤ d) (hI0 : zInv m0) : zC E d 192 [(2, 69)] m0 (fun v m' => ∃ r : Int, v = (1, r) ∧ (-9223372036854775808) ≤ r ∧ r ≤ 9223372036854775807 ∧ zInv m' ∧ zFr W_192 m0 m') := by
  have hF0 : zFr W_192 m0 m0 := zFr.rfl
  generalize hQ : (fun (v : zV) (m' : zM) => ∃ r : Int, v = (1, r) ∧ (-9223372036854775808) ≤ r ∧ r ≤ 9223372036854775807 ∧ zInv m' ∧ zFr W_192 m0 m') = Q
  show zW E d 192 0 [(2, 69), (9, 0), (9, 0), (9, 0)] [] m0 Q
  refine zw_push zr_192_0 ?_
  refine zw_13 (L' := [(2, 69), (1, 0), (9, 0), (9, 0)]) zr_192_1 (Nat.le_of_ble_eq_true rfl) rfl ?_
  refine zw_push zr_192_2 ?_
  refine zw_9 (L' := [(2, 69), (1, 0), (9, 0), (0, 0)]) zr_192_3 (Nat.le_of_ble_eq_true rfl) rfl ?_
  have lp4_4 : ∀ (nlp4_4 : Nat) (i1 i2 : Int) (m3 : zM), zInv m3 → zFr W_192 m0 m3 → (-9223372036854775808) ≤ i1 → i1 ≤ 9223372036854775807 → 0 ≤ i2 → i2 ≤ 60 → (60 - i2).toNat < nlp4_4 → zW E (d) 192 4 [(2, 69), (1, i1), (9, 0), (0, i2)] [] m3 Q := by
    intro nlp4_4
    induction nlp4_4 with
    | zero =>
      intros
      exact absurd (by assumption : _ < 0) (Nat.not_lt_zero _)
    | succ nlp4_4 ihlp4_4 =>
      intro i1 i2 m3 hIm3 hFm3 li1 ui1 li2 ui2 hmlp4_4
      refine zw_3 zr_192_4 rfl ?_
      refine zw_7 zr_192_5 rfl ?_
      refine zw_C zr_192_6 (Or.inl rfl) zm_142 rfl rfl ⟨Nat.le_of_ble_eq_true rfl, Nat.le_of_ble_eq_true rfl, Nat.le_of_ble_eq_true rfl, rfl, by decide⟩ (by omega) (P := (fun v m' => zW E (d) 192 9 [(2, 69), (1, i1), (9, 0), (0, i2)] (if v.1 = 9 then [(0, i2)] else v :: [(0, i2)]) m' Q)) ?_ (fun _ _ h => h)
      generalize hQ1 : (fun v m' => zW E (d) 192 9 [(2, 69), (1, i1), (9, 0), (0, i2)] (if v.1 = 9 then [(0, i2)] else v :: [(0, i2)]) m' Q) = Q1
      show zW E (d - 1) 142 0 [(2, 69)] [] m3 Q1
      refine zw_7 zr_142_0 rfl ?_
      refine zw_46r (s := 70) zr_142_1 rfl rfl rfl rfl ?_
      refine zw_push zr_142_4 ?_
      obtain ⟨f6, ef6⟩ : ∃ v, m3 70 823 = v := ⟨_, rfl⟩
      have bf6 : 0 ≤ m3 70 823 ∧ m3 70 823 ≤ 60 := ib_70_meetings hIm3 (by omega)
      rw [ef6] at bf6
      refine zw_48k (c := 70) (len := 826) zr_142_7 rfl rfl (by omega) (by omega) (show (823 : Int).toNat = 823 by omega) ef6 ?_
      refine zw_R zr_142_8 (by decide) zm_142 (v := (0, f6)) rfl ?_
      rw [← hQ1]
      show zW E (d) 192 9 [(2, 69), (1, i1), (9, 0), (0, i2)] [(0, f6), (0, i2)] m3 Q
      refine zw_41_3 zr_192_9 ?_ ?_
      · intro h7
        refine zw_5 zr_192_63 rfl ?_
        refine zw_R zr_192_64 (by decide) zm_192 (v := (1, i1)) rfl ?_
        rw [← hQ]; exact ⟨_, rfl, by omega, by omega, hIm3, hFm3⟩
      · intro h8
        refine zw_7 zr_192_12 rfl ?_
        refine zw_3 zr_192_13 rfl ?_
        refine zw_C zr_192_14 (Or.inl rfl) zm_181 rfl rfl ⟨Nat.le_of_ble_eq_true rfl, Nat.le_of_ble_eq_true rfl, Nat.le_of_ble_eq_true rfl, rfl, by decide⟩ (by omega) (P := (fun v m' => zW E (d) 192 17 [(2, 69), (1, i1), (9, 0), (0, i2)] (if v.1 = 9 then [] else v :: []) m' Q)) ?_ (fun _ _ h => h)
        generalize hQ1 : (fun v m' => zW E (d) 192 17 [(2, 69), (1, i1), (9, 0), (0, i2)] (if v.1 = 9 then [] else v :: []) m' Q) = Q1
        show zW E (d - 1) 181 0 [(2, 69), (0, i2)] [] m3 Q1
        refine zw_7 zr_181_0 rfl ?_
        refine zw_3 zr_181_1 rfl ?_
        refine zw_push zr_181_2 ?_
        refine zw_C zr_181_3 (Or.inl rfl) zm_144 rfl rfl ⟨Nat.le_of_ble_eq_true rfl, Nat.le_of_ble_eq_true rfl, Nat.le_of_ble_eq_true rfl, rfl, by decide⟩ (by omega) (P := (fun v m' => zW E (d - 1) 181 6 [(2, 69), (0, i2)] (if v.1 = 9 then [] else v :: []) m' Q1)) ?_ (fun _ _ h => h)
        generalize hQ2 : (fun v m' => zW E (d - 1) 181 6 [(2, 69), (0, i2)] (if v.1 = 9 then [] else v :: []) m' Q1) = Q2
        show zW E (d - 1 - 1) 144 0 [(2, 69), (0, i2), (0, 4)] [] m3 Q2
        refine zw_7 zr_144_0 rfl ?_
        refine zw_46r (s := 70) zr_144_1 rfl rfl rfl rfl ?_
        refine zw_push zr_144_4 ?_
        refine zw_push zr_144_6 ?_
        refine zw_3 zr_144_8 rfl ?_
        refine zw_18 zr_144_9 (by omega) ?_
        refine zw_16 zr_144_10 (by omega) ?_
        refine zw_3 zr_144_11 rfl ?_
        refine zw_16 zr_144_12 (by omega) ?_
        refine zw_48 (c := 70) (len := 826) zr_144_13 rfl rfl (by omega) (by omega) ?_
        intro x9 ex9
        have bx9 := ib_70_m4 hIm3 (k := (((90 + (6 * i2)) + 4)).toNat) (by omega)
        rw [← ex9] at bx9
        clear ex9
        refine zw_R zr_144_14 (by decide) zm_144 (v := (0, x9)) rfl ?_
        rw [← hQ2]
        show zW E (d - 1) 181 6 [(2, 69), (0, i2)] [(0, x9)] m3 Q1
        refine zw_40_4 zr_181_6 ?_ ?_
        · intro h10
          refine zw_push zr_181_22 ?_
          refine zw_R zr_181_23 (by decide) zm_181 (v := (0, 0)) (zRetB (by omega)) ?_
          rw [← hQ1]
          show zW E (d) 192 17 [(2, 69), (1, i1), (9, 0), (0, i2)] [(0, 0)] m3 Q
          refine zw_40_1 zr_192_17 ?_ ?_
          · intro h11
            refine zw_15 (c := 1) (L' := [(2, 69), (1, i1), (9, 0), (0, (i2 + 1))]) zr_192_57 rfl (by decide) (by omega) rfl ?_
            refine zw_42 zr_192_60 ?_
            exact zw_less (L := [(2, 69), (1, i1), (9, 0), (0, (i2 + 1))]) ⟨Or.inr rfl, Or.inr rfl, Or.inl rfl, Or.inr rfl, trivial⟩ (ihlp4_4 (i1) ((i2 + 1)) m3 hIm3 hFm3   (by omega) (by omega) (by omega) (by omega)  (by omega))
          · intro h12; omega
        · intro h13
          refine zw_7 zr_181_9 rfl ?_
          refine zw_3 zr_181_10 rfl ?_
          refine zw_push zr_181_11 ?_
          refine zw_C zr_181_12 (Or.inl rfl) zm_144 rfl rfl ⟨Nat.le_of_ble_eq_true rfl, Nat.le_of_ble_eq_true rfl, Nat.le_of_ble_eq_true rfl, rfl, by decide⟩ (by omega) (P := (fun v m' => zW E (d - 1) 181 15 [(2, 69), (0, i2)] (if v.1 = 9 then [] else v :: []) m' Q1)) ?_ (fun _ _ h => h)
          generalize hQ2 : (fun v m' => zW E (d - 1) 181 15 [(2, 69), (0, i2)] (if v.1 = 9 then [] else v :: []) m' Q1) = Q2
          show zW E (d - 1 - 1) 144 0 [(2, 69), (0, i2), (0, 5)] [] m3 Q2
          refine zw_7 zr_144_0 rfl ?_
          refine zw_46r (s := 70) zr_144_1 rfl rfl rfl rfl ?_
          refine zw_push zr_144_4 ?_
          refine zw_push zr_144_6 ?_
          refine zw_3 zr_144_8 rfl ?_
          refine zw_18 zr_144_9 (by omega) ?_
          refine zw_16 zr_144_10 (by omega) ?_
          refine zw_3 zr_144_11 rfl ?_
          refine zw_16 zr_144_12 (by omega) ?_
          refine zw_48 (c := 70) (len := 826) zr_144_13 rfl rfl (by omega) (by omega) ?_
          intro x14 ex14
          have bx14 := ib_70_m5 hIm3 (k := (((90 + (6 * i2)) + 5)).toNat) (by omega)
          rw [← ex14] at bx14
          clear ex14
          refine zw_R zr_144_14 (by decide) zm_144 (v := (0, x14)) rfl ?_
          rw [← hQ2]
          show zW E (d - 1) 181 15 [(2, 69), (0, i2)] [(0, x14)] m3 Q1
          refine zw_40_4 zr_181_15 ?_ ?_
          · intro h15
            refine zw_push zr_181_22 ?_
            refine zw_R zr_181_23 (by decide) zm_181 (v := (0, 0)) (zRetB (by omega)) ?_
            rw [← hQ1]
            show zW E (d) 192 17 [(2, 69), (1, i1), (9, 0), (0, i2)] [(0, 0)] m3 Q
            refine zw_40_1 zr_192_17 ?_ ?_
            · intro h16
              refine zw_15 (c := 1) (L' := [(2, 69), (1, i1), (9, 0), (0, (i2 + 1))]) zr_192_57 rfl (by decide) (by omega) rfl ?_
              refine zw_42 zr_192_60 ?_
              exact zw_less (L := [(2, 69), (1, i1), (9, 0), (0, (i2 + 1))]) ⟨Or.inr rfl, Or.inr rfl, Or.inl rfl, Or.inr rfl, trivial⟩ (ihlp4_4 (i1) ((i2 + 1)) m3 hIm3 hFm3   (by omega) (by omega) (by omega) (by omega)  (by omega))
            · intro h17; omega
          · intro h18
            refine zw_push zr_181_18 ?_
            refine zw_42 zr_181_19 ?_
            refine zw_R zr_181_23 (by decide) zm_181 (v := (0, 1)) (zRetB (by omega)) ?_
            rw [← hQ1]
            show zW E (d) 192 17 [(2, 69), (1, i1), (9, 0), (0, i2)] [(0, 1)] m3 Q
            refine zw_40_1 zr_192_17 ?_ ?_
            · intro h19; omega
            · intro h20
              refine zw_7 zr_192_20 rfl ?_
              refine zw_7 zr_192_21 rfl ?_
              refine zw_3 zr_192_22 rfl ?_
              refine zw_push zr_192_23 ?_
              refine zw_C zr_192_24 (Or.inl rfl) zm_144 rfl rfl ⟨Nat.le_of_ble_eq_true rfl, Nat.le_of_ble_eq_true rfl, Nat.le_of_ble_eq_true rfl, rfl, by decide⟩ (by omega) (P := (fun v m' => zW E (d) 192 27 [(2, 69), (1, i1), (9, 0), (0, i2)] (if v.1 = 9 then [(2, 69)] else v :: [(2, 69)]) m' Q)) ?_ (fun _ _ h => h)
              generalize hQ1 : (fun v m' => zW E (d) 192 27 [(2, 69), (1, i1), (9, 0), (0, i2)] (if v.1 = 9 then [(2, 69)] else v :: [(2, 69)]) m' Q) = Q1
              show zW E (d - 1) 144 0 [(2, 69), (0, i2), (0, 1)] [] m3 Q1
              refine zw_7 zr_144_0 rfl ?_
              refine zw_46r (s := 70) zr_144_1 rfl rfl rfl rfl ?_
              refine zw_push zr_144_4 ?_
              refine zw_push zr_144_6 ?_
              refine zw_3 zr_144_8 rfl ?_
              refine zw_18 zr_144_9 (by omega) ?_
              refine zw_16 zr_144_10 (by omega) ?_
              refine zw_3 zr_144_11 rfl ?_
              refine zw_16 zr_144_12 (by omega) ?_
              refine zw_48 (c := 70) (len := 826) zr_144_13 rfl rfl (by omega) (by omega) ?_
              intro x21 ex21
              have bx21 := ib_70_m1 hIm3 (k := (((90 + (6 * i2)) + 1)).toNat) (by omega)
              rw [← ex21] at bx21
              clear ex21
              refine zw_R zr_144_14 (by decide) zm_144 (v := (0, x21)) rfl ?_
              rw [← hQ1]
              show zW E (d) 192 27 [(2, 69), (1, i1), (9, 0), (0, i2)] [(0, x21), (2, 69)] m3 Q
              refine zw_3 zr_192_27 rfl ?_
              refine zw_C zr_192_28 (Or.inl rfl) zm_188 rfl rfl ⟨Nat.le_of_ble_eq_true rfl, Nat.le_of_ble_eq_true rfl, Nat.le_of_ble_eq_true rfl, rfl, by decide⟩ (by omega) (th_188 (d := d - 1) (by omega) hIm3 (a0 := x21) (a1 := i2)      (by omega) (by omega) ) ?_
              rintro _ m22 ⟨rfl, hIm22, gm22, po0_m22⟩
              have hFm22 : zFr W_192 m0 m22 := hFm3.trans gm22 rfl
              have km22_70_823 : m22 70 823 = f6 := (gm22 70 823 rfl).trans ef6
              show zW E (d) 192 31 [(2, 69), (1, i1), (9, 0), (0, i2)] [] m22 Q
              refine zw_5 zr_192_31 rfl ?_
              refine zw_7 zr_192_32 rfl ?_
              refine zw_46r (s := 81) zr_192_33 rfl rfl rfl rfl ?_
              refine zw_7 zr_192_36 rfl ?_
              refine zw_3 zr_192_37 rfl ?_
              refine zw_push zr_192_38 ?_
              refine zw_C zr_192_39 (Or.inl rfl) zm_144 rfl rfl ⟨Nat.le_of_ble_eq_true rfl, Nat.le_of_ble_eq_true rfl, Nat.le_of_ble_eq_true rfl, rfl, by decide⟩ (by omega) (P := (fun v m' => zW E (d) 192 42 [(2, 69), (1, i1), (9, 0), (0, i2)] (if v.1 = 9 then [(2, 81), (1, i1)] else v :: [(2, 81), (1, i1)]) m' Q)) ?_ (fun _ _ h => h)
              generalize hQ1 : (fun v m' => zW E (d) 192 42 [(2, 69), (1, i1), (9, 0), (0, i2)] (if v.1 = 9 then [(2, 81), (1, i1)] else v :: [(2, 81), (1, i1)]) m' Q) = Q1
              show zW E (d - 1) 144 0 [(2, 69), (0, i2), (0, 2)] [] m22 Q1
              refine zw_7 zr_144_0 rfl ?_
              refine zw_46r (s := 70) zr_144_1 rfl rfl rfl rfl ?_
              refine zw_push zr_144_4 ?_
              refine zw_push zr_144_6 ?_
              refine zw_3 zr_144_8 rfl ?_
              refine zw_18 zr_144_9 (by omega) ?_
              refine zw_16 zr_144_10 (by omega) ?_
              refine zw_3 zr_144_11 rfl ?_
              refine zw_16 zr_144_12 (by omega) ?_
              refine zw_48 (c := 70) (len := 826) zr_144_13 rfl rfl (by omega) (by omega) ?_
              intro x23 ex23
              have bx23 := ib_70_m2 hIm22 (k := (((90 + (6 * i2)) + 2)).toNat) (by omega)
              rw [← ex23] at bx23
              clear ex23
              refine zw_R zr_144_14 (by decide) zm_144 (v := (0, x23)) rfl ?_
              rw [← hQ1]
              show zW E (d) 192 42 [(2, 69), (1, i1), (9, 0), (0, i2)] [(0, x23), (2, 81), (1, i1)] m22 Q
              refine zw_48 (c := 81) (len := 10) zr_192_42 rfl rfl (by omega) (by omega) ?_
              intro x24 ex24
              have bx24 := ib_81 hIm22 (k := (x23).toNat) (by omega)
              rw [← ex24] at bx24
              clear ex24
              refine zw_push zr_192_43 ?_
              refine zw_41_0 zr_192_45 ?_ ?_
              · intro h25
                refine zw_push zr_192_54 ?_
                refine zw_31h zr_192_55 ?_
                intro x26 hx26a hx26b
                refine zw_13 (L' := [(2, 69), (1, x26), (9, 0), (0, i2)]) zr_192_56 (Nat.le_of_ble_eq_true rfl) rfl ?_
                refine zw_15 (c := 1) (L' := [(2, 69), (1, x26), (9, 0), (0, (i2 + 1))]) zr_192_57 rfl (by decide) (by omega) rfl ?_
                refine zw_42 zr_192_60 ?_
                exact zw_less (L := [(2, 69), (1, x26), (9, 0), (0, (i2 + 1))]) ⟨Or.inr rfl, Or.inr rfl, Or.inl rfl, Or.inr rfl, trivial⟩ (ihlp4_4 (x26) ((i2 + 1)) m22 hIm22 hFm22   (by omega) (by omega) (by omega) (by omega)  (by omega))
              · intro h27
                refine zw_push zr_192_48 ?_
                refine zw_3 zr_192_49 rfl ?_
                refine zw_33p zr_192_50 (by omega) ?_
                intro x28 ex28 hx28a hx28b
                refine zw_42 zr_192_51 ?_
                refine zw_31h zr_192_55 ?_
                intro x29 hx29a hx29b
                refine zw_13 (L' := [(2, 69), (1, x29), (9, 0), (0, i2)]) zr_192_56 (Nat.le_of_ble_eq_true rfl) rfl ?_
                refine zw_15 (c := 1) (L' := [(2, 69), (1, x29), (9, 0), (0, (i2 + 1))]) zr_192_57 rfl (by decide) (by omega) rfl ?_
                refine zw_42 zr_192_60 ?_
                exact zw_less (L := [(2, 69), (1, x29), (9, 0), (0, (i2 + 1))]) ⟨Or.inr rfl, Or.inr rfl, Or.inl rfl, Or.inr rfl, trivial⟩ (ihlp4_4 (x29) ((i2 + 1)) m22 hIm22 hFm22   (by omega) (by omega) (by omega) (by omega)  (by omega))
  exact lp4_4 _ (0) (0) m0 hI0 hF0   (by omega) (by omega) (by omega) (by omega)  (Nat.lt_succ_self _)

abbrev W_4_54 : List (Nat × Nat) := [(54, 1000)]
set_option maxHeartbeats 8000000 in
theorem th_4_54 {E : zE} {d : Nat} {m0 : zM} {a0 : Int} {F54 : Nat → Int} (hd : 1 ≤ d) (hI0 : zInv m0) (hG54 : m0 54 = F54) (ha0 : 0 ≤ a0 ∧ a0 ≤ 0) : zC E d 4 [(2, 54), (0, a0)] m0 (fun v m' => v = (9, 0) ∧ zInv m' ∧ zFr W_4_54 m0 m' ∧ (zFil (m' 54) 10 a0)) := by
  have hF0 : zFr W_4_54 m0 m0 := zFr.rfl
  generalize hQ : (fun (v : zV) (m' : zM) => v = (9, 0) ∧ zInv m' ∧ zFr W_4_54 m0 m' ∧ (zFil (m' 54) 10 a0)) = Q
  show zW E d 4 0 [(2, 54), (0, a0), (9, 0), (9, 0)] [] m0 Q
  refine zw_push zr_4_0 ?_
  refine zw_9 (L' := [(2, 54), (0, a0), (0, 0), (9, 0)]) zr_4_1 (Nat.le_of_ble_eq_true rfl) rfl ?_
  refine zw_7 zr_4_2 rfl ?_
  refine zw_101 (c := 54) (len := 10) zr_4_3 rfl rfl (by decide) ?_
  refine zw_9 (L' := [(2, 54), (0, a0), (0, 0), (0, 10)]) zr_4_4 (Nat.le_of_ble_eq_true rfl) rfl ?_
  have lp5_4 : ∀ (nlp5_4 : Nat) (i1 : Int) (f3 : Nat → Int) (m2 : zM), zInv m2 → zFr W_4_54 m0 m2 → m2 54 = f3 → 0 ≤ i1 → i1 ≤ 10 → (zFil f3 i1 a0) → (10 - i1).toNat < nlp5_4 → zW E (d) 4 5 [(2, 54), (0, a0), (0, i1), (0, 10)] [] m2 Q := by
    intro nlp5_4
    induction nlp5_4 with
    | zero =>
      intros
      exact absurd (by assumption : _ < 0) (Nat.not_lt_zero _)
    | succ nlp5_4 ihlp5_4 =>
      intro i1 f3 m2 hIm2 hFm2 fm2_54 li1 ui1 hv0lp5_4 hmlp5_4
      refine zw_3 zr_4_5 rfl ?_
      refine zw_3 zr_4_6 rfl ?_
      refine zw_41_3 zr_4_7 ?_ ?_
      · intro h6
        refine zw_R zr_4_20 (by decide) zm_4 (v := (9, 0)) rfl ?_
        rw [← hQ]; exact ⟨rfl, hIm2, hFm2, by rw [fm2_54]; exact zFil_le hv0lp5_4 (by omega)⟩
      · intro h8
        refine zw_7 zr_4_10 rfl ?_
        refine zw_3 zr_4_11 rfl ?_
        refine zw_3 zr_4_12 rfl ?_
        refine zw_49 (c := 54) (len := 10) zr_4_13 rfl rfl (by omega) (by omega) ?_
        intro m9 em9
        have hIm9 : zInv m9 := by rw [em9]; exact iu_54 hIm2 (by omega)
        have hFm9 : zFr W_4_54 m0 m9 := by rw [em9]; exact hFm2.any rfl
        have fm9_54 : m9 54 = zPt f3 ((i1).toNat) a0 := by rw [em9]; exact (zUp_ff (m := m2)).trans (congrArg (fun q => zPt q ((i1).toNat) a0) fm2_54)
        clear em9
        refine zw_15 (c := 1) (L' := [(2, 54), (0, a0), (0, (i1 + 1)), (0, 10)]) zr_4_14 rfl (by decide) (by omega) rfl ?_
        refine zw_42 zr_4_17 ?_
        exact zw_less (L := [(2, 54), (0, a0), (0, (i1 + 1)), (0, 10)]) ⟨Or.inr rfl, Or.inr rfl, Or.inr rfl, Or.inr rfl, trivial⟩ (ihlp5_4 ((i1 + 1)) (zPt f3 ((i1).toNat) a0) m9 hIm9 hFm9   fm9_54 (by omega) (by omega) (zFil_put hv0lp5_4 (by omega)) (by omega))
  exact lp5_4 _ (0) (F54) m0 hI0 hF0  hG54 (by omega) (by omega) (zFil_0) (Nat.lt_succ_self _)

abbrev W_31 : List (Nat × Nat) := [(52, 0), (52, 1), (52, 2)]
set_option maxHeartbeats 8000000 in
theorem th_31 {E : zE} {d : Nat} {m0 : zM} {a0 : Int} {a1 : Int} {a2 : Int} (hd : 1 ≤ d) (hI0 : zInv m0) (ha0 : 0 ≤ a0 ∧ a0 ≤ 9) (ha1 : (-2147483648) ≤ a1 ∧ a1 ≤ 2147483647) (ha2 : 0 ≤ a2 ∧ a2 ≤ 63) : zC E d 31 [(2, 52), (0, a0), (1, a1), (1, a2)] m0 (fun v m' => v = (9, 0) ∧ zInv m' ∧ zFr W_31 m0 m') := by
  have hF0 : zFr W_31 m0 m0 := zFr.rfl
  generalize hQ : (fun (v : zV) (m' : zM) => v = (9, 0) ∧ zInv m' ∧ zFr W_31 m0 m') = Q
  show zW E d 31 0 [(2, 52), (0, a0), (1, a1), (9, 0), (1, a2), (9, 0), (9, 0), (9, 0)] [] m0 Q
  refine zw_7 zr_31_0 rfl ?_
  obtain ⟨f1, ef1⟩ : ∃ v, m0 52 0 = v := ⟨_, rfl⟩
  have bf1 := ib_52_0 hI0
  rw [ef1] at bf1
  refine zw_46i zr_31_1 ef1 rfl rfl rfl ?_
  refine zw_push zr_31_4 ?_
  refine zw_41_4 zr_31_5 ?_ ?_
  · intro h2
    refine zw_5 zr_31_12 rfl ?_
    refine zw_7 zr_31_13 rfl ?_
    obtain ⟨f3, ef3⟩ : ∃ v, m0 52 2 = v := ⟨_, rfl⟩
    have bf3 := hI0.fl (c := 52) (k := 2) rfl
    rw [ef3] at bf3
    refine zw_46l zr_31_14 ef3 rfl rfl rfl ?_
    refine zw_29h zr_31_17 ?_
    intro x4 hx4a hx4b
    refine zw_7 zr_31_18 rfl ?_
    obtain ⟨f5, ef5⟩ : ∃ v, m0 52 1 = v := ⟨_, rfl⟩
    have bf5 := hI0.fl (c := 52) (k := 1) rfl
    rw [ef5] at bf5
    refine zw_46l zr_31_19 ef5 rfl rfl rfl ?_
    refine zw_6 zr_31_22 rfl ?_
    refine zw_29h zr_31_24 ?_
    intro x6 hx6a hx6b
    refine zw_28h zr_31_25 ?_
    intro x7 hx7a hx7b
    refine zw_14 (L' := [(2, 52), (0, a0), (1, a1), (9, 0), (1, a2), (9, 0), (1, x7), (9, 0)]) zr_31_26 (Nat.le_of_ble_eq_true rfl) rfl ?_
    refine zw_6 zr_31_28 rfl ?_
    refine zw_push zr_31_30 ?_
    refine zw_39_2 zr_31_31 zr_31_32 ?_ ?_
    · intro h8
      refine zw_7 zr_31_50 rfl ?_
      refine zw_3 zr_31_51 rfl ?_
      refine zw_47 (c := 52) zr_31_52 rfl ⟨rfl, by decide, rfl⟩ ?_
      intro m9 em9
      have hIm9 : zInv m9 := by rw [em9]; exact hI0.bd (r := 52) (k := 0) (lo := (-1)) (hi := 9) rfl (by omega) (by decide) (by decide) (by decide)
      have hFm9 : zFr W_31 m0 m9 := by rw [em9]; exact hF0.up rfl
      have km9_52_2 : m9 52 2 = f3 := by rw [em9, zUp_ne (by omega)]; exact ef3
      have km9_52_1 : m9 52 1 = f5 := by rw [em9, zUp_ne (by omega)]; exact ef5
      have km9_52_0 : m9 52 0 = a0 := by rw [em9]; exact zUp_eq _ _ _ _
      clear em9
      refine zw_7 zr_31_55 rfl ?_
      refine zw_5 zr_31_56 rfl ?_
      refine zw_47 (c := 52) zr_31_57 rfl ⟨rfl, by decide, rfl⟩ ?_
      intro m10 em10
      have hIm10 : zInv m10 := by rw [em10]; exact hIm9.anyl (by omega) (by decide) rfl (by decide) (by decide)
      have hFm10 : zFr W_31 m0 m10 := by rw [em10]; exact hFm9.up rfl
      have km10_52_2 : m10 52 2 = f3 := by rw [em10, zUp_ne (by omega)]; exact km9_52_2
      have km10_52_0 : m10 52 0 = a0 := by rw [em10, zUp_ne (by omega)]; exact km9_52_0
      have km10_52_1 : m10 52 1 = a1 := by rw [em10]; exact zUp_eq _ _ _ _
      clear em10
      refine zw_7 zr_31_60 rfl ?_
      refine zw_6 zr_31_61 rfl ?_
      refine zw_47 (c := 52) zr_31_63 rfl ⟨rfl, by decide, rfl⟩ ?_
      intro m11 em11
      have hIm11 : zInv m11 := by rw [em11]; exact hIm10.anyl (by omega) (by decide) rfl (by decide) (by decide)
      have hFm11 : zFr W_31 m0 m11 := by rw [em11]; exact hFm10.up rfl
      have km11_52_0 : m11 52 0 = a0 := by rw [em11, zUp_ne (by omega)]; exact km10_52_0
      have km11_52_1 : m11 52 1 = a1 := by rw [em11, zUp_ne (by omega)]; exact km10_52_1
      have km11_52_2 : m11 52 2 = a2 := by rw [em11]; exact zUp_eq _ _ _ _
      clear em11
      refine zw_R zr_31_66 (by decide) zm_31 (v := (9, 0)) rfl ?_
      rw [← hQ]; exact ⟨rfl, hIm11, hFm11⟩
    · intro h12
      refine zw_6 zr_31_35 rfl ?_
      refine zw_push zr_31_37 ?_
      refine zw_39_4 zr_31_38 zr_31_39 ?_ ?_
      · intro h13
        refine zw_R zr_31_66 (by decide) zm_31 (v := (9, 0)) rfl ?_
        rw [← hQ]; exact ⟨rfl, hI0, hF0⟩
      · intro h14
        refine zw_3 zr_31_42 rfl ?_
        refine zw_7 zr_31_43 rfl ?_
        refine zw_46i zr_31_44 ef1 rfl rfl rfl ?_
        refine zw_41_3 zr_31_47 ?_ ?_
        · intro h15
          refine zw_R zr_31_66 (by decide) zm_31 (v := (9, 0)) rfl ?_
          rw [← hQ]; exact ⟨rfl, hI0, hF0⟩
        · intro h16
          refine zw_7 zr_31_50 rfl ?_
          refine zw_3 zr_31_51 rfl ?_
          refine zw_47 (c := 52) zr_31_52 rfl ⟨rfl, by decide, rfl⟩ ?_
          intro m17 em17
          have hIm17 : zInv m17 := by rw [em17]; exact hI0.bd (r := 52) (k := 0) (lo := (-1)) (hi := 9) rfl (by omega) (by decide) (by decide) (by decide)
          have hFm17 : zFr W_31 m0 m17 := by rw [em17]; exact hF0.up rfl
          have km17_52_2 : m17 52 2 = f3 := by rw [em17, zUp_ne (by omega)]; exact ef3
          have km17_52_1 : m17 52 1 = f5 := by rw [em17, zUp_ne (by omega)]; exact ef5
          have km17_52_0 : m17 52 0 = a0 := by rw [em17]; exact zUp_eq _ _ _ _
          clear em17
          refine zw_7 zr_31_55 rfl ?_
          refine zw_5 zr_31_56 rfl ?_
          refine zw_47 (c := 52) zr_31_57 rfl ⟨rfl, by decide, rfl⟩ ?_
          intro m18 em18
          have hIm18 : zInv m18 := by rw [em18]; exact hIm17.anyl (by omega) (by decide) rfl (by decide) (by decide)
          have hFm18 : zFr W_31 m0 m18 := by rw [em18]; exact hFm17.up rfl
          have km18_52_2 : m18 52 2 = f3 := by rw [em18, zUp_ne (by omega)]; exact km17_52_2
          have km18_52_0 : m18 52 0 = a0 := by rw [em18, zUp_ne (by omega)]; exact km17_52_0
          have km18_52_1 : m18 52 1 = a1 := by rw [em18]; exact zUp_eq _ _ _ _
          clear em18
          refine zw_7 zr_31_60 rfl ?_
          refine zw_6 zr_31_61 rfl ?_
          refine zw_47 (c := 52) zr_31_63 rfl ⟨rfl, by decide, rfl⟩ ?_
          intro m19 em19
          have hIm19 : zInv m19 := by rw [em19]; exact hIm18.anyl (by omega) (by decide) rfl (by decide) (by decide)
          have hFm19 : zFr W_31 m0 m19 := by rw [em19]; exact hFm18.up rfl
          have km19_52_0 : m19 52 0 = a0 := by rw [em19, zUp_ne (by omega)]; exact km18_52_0
          have km19_52_1 : m19 52 1 = a1 := by rw [em19, zUp_ne (by omega)]; exact km18_52_1
          have km19_52_2 : m19 52 2 = a2 := by rw [em19]; exact zUp_eq _ _ _ _
          clear em19
          refine zw_R zr_31_66 (by decide) zm_31 (v := (9, 0)) rfl ?_
          rw [← hQ]; exact ⟨rfl, hIm19, hFm19⟩
  · intro h20
    refine zw_push zr_31_8 ?_
    refine zw_42 zr_31_9 ?_
    refine zw_14 (L' := [(2, 52), (0, a0), (1, a1), (9, 0), (1, a2), (9, 0), (1, 1), (9, 0)]) zr_31_26 (Nat.le_of_ble_eq_true rfl) rfl ?_
    refine zw_6 zr_31_28 rfl ?_
    refine zw_push zr_31_30 ?_
    refine zw_39_2 zr_31_31 zr_31_32 ?_ ?_
    · intro h21
      refine zw_7 zr_31_50 rfl ?_
      refine zw_3 zr_31_51 rfl ?_
      refine zw_47 (c := 52) zr_31_52 rfl ⟨rfl, by decide, rfl⟩ ?_
      intro m22 em22
      have hIm22 : zInv m22 := by rw [em22]; exact hI0.bd (r := 52) (k := 0) (lo := (-1)) (hi := 9) rfl (by omega) (by decide) (by decide) (by decide)
      have hFm22 : zFr W_31 m0 m22 := by rw [em22]; exact hF0.up rfl
      have km22_52_0 : m22 52 0 = a0 := by rw [em22]; exact zUp_eq _ _ _ _
      clear em22
      refine zw_7 zr_31_55 rfl ?_
      refine zw_5 zr_31_56 rfl ?_
      refine zw_47 (c := 52) zr_31_57 rfl ⟨rfl, by decide, rfl⟩ ?_
      intro m23 em23
      have hIm23 : zInv m23 := by rw [em23]; exact hIm22.anyl (by omega) (by decide) rfl (by decide) (by decide)
      have hFm23 : zFr W_31 m0 m23 := by rw [em23]; exact hFm22.up rfl
      have km23_52_0 : m23 52 0 = a0 := by rw [em23, zUp_ne (by omega)]; exact km22_52_0
      have km23_52_1 : m23 52 1 = a1 := by rw [em23]; exact zUp_eq _ _ _ _
      clear em23
      refine zw_7 zr_31_60 rfl ?_
      refine zw_6 zr_31_61 rfl ?_
      refine zw_47 (c := 52) zr_31_63 rfl ⟨rfl, by decide, rfl⟩ ?_
      intro m24 em24
      have hIm24 : zInv m24 := by rw [em24]; exact hIm23.anyl (by omega) (by decide) rfl (by decide) (by decide)
      have hFm24 : zFr W_31 m0 m24 := by rw [em24]; exact hFm23.up rfl
      have km24_52_0 : m24 52 0 = a0 := by rw [em24, zUp_ne (by omega)]; exact km23_52_0
      have km24_52_1 : m24 52 1 = a1 := by rw [em24, zUp_ne (by omega)]; exact km23_52_1
      have km24_52_2 : m24 52 2 = a2 := by rw [em24]; exact zUp_eq _ _ _ _
      clear em24
      refine zw_R zr_31_66 (by decide) zm_31 (v := (9, 0)) rfl ?_
      rw [← hQ]; exact ⟨rfl, hIm24, hFm24⟩
    · intro h25; omega

abbrev W_32 : List (Nat × Nat) := [(52, 0), (52, 1), (52, 2), (53, 1000), (54, 1000)]
set_option maxHeartbeats 8000000 in
theorem th_32 {E : zE} {d : Nat} {m0 : zM} {a0 : Int} {a1 : Int} {gY : Int} {F54 : Nat → Int} (hd : 2 ≤ d) (hI0 : zInv m0) (hG54 : m0 54 = F54) (ha0 : 0 ≤ a0 ∧ a0 ≤ 9) (ha1 : (-2147483648) ≤ a1 ∧ a1 ≤ 2147483647) (hp0 : zY F54 a0 gY) (hp1 : 0 ≤ gY ∧ gY ≤ 59) : zC E d 32 [(2, 52), (0, a0), (0, a1)] m0 (fun v m' => v = (9, 0) ∧ zInv m' ∧ zFr W_32 m0 m' ∧ (zY (m' 54) (a0 + 1) gY)) := by
  have hF0 : zFr W_32 m0 m0 := zFr.rfl
  generalize hQ : (fun (v : zV) (m' : zM) => v = (9, 0) ∧ zInv m' ∧ zFr W_32 m0 m' ∧ (zY (m' 54) (a0 + 1) gY)) = Q
  show zW E d 32 0 [(2, 52), (0, a0), (0, a1), (9, 0), (9, 0)] [] m0 Q
  refine zw_7 zr_32_0 rfl ?_
  refine zw_46r (s := 53) zr_32_1 rfl rfl rfl rfl ?_
  refine zw_3 zr_32_4 rfl ?_
  refine zw_push zr_32_5 ?_
  refine zw_18 zr_32_7 (by omega) ?_
  refine zw_7 zr_32_8 rfl ?_
  refine zw_46r (s := 54) zr_32_9 rfl rfl rfl rfl ?_
  refine zw_3 zr_32_12 rfl ?_
  refine zw_48 (c := 54) (len := 10) zr_32_13 rfl rfl (by omega) (by omega) ?_
  intro x1 ex1
  have bx1 := ib_54 hI0 (k := (a0).toNat) (by omega)
  rw [← ex1] at bx1
  have qx1 : x1 = F54 (a0).toNat := by rw [← hG54]; exact ex1
  clear ex1
  have z2 : x1 ≤ gY := by rw [qx1]; exact zY_at hp0 (by omega) (by omega)
  refine zw_push zr_32_14 ?_
  refine zw_20 zr_32_16 (by omega) (by omega) (by omega) (by omega) ?_
  refine zw_16 zr_32_17 (by omega) ?_
  refine zw_7 zr_32_18 rfl ?_
  refine zw_46r (s := 43) zr_32_19 rfl rfl rfl rfl ?_
  refine zw_46r (s := 44) zr_32_22 rfl rfl rfl rfl ?_
  refine zw_3 zr_32_25 rfl ?_
  refine zw_48 (c := 44) (len := 10) zr_32_26 rfl rfl (by omega) (by omega) ?_
  intro x3 ex3
  have bx3 := hI0.ra (c := 44) (len := 10) (k := (a0).toNat) rfl (by omega)
  rw [← ex3] at bx3
  clear ex3
  refine zw_49 (c := 53) (len := 90) zr_32_27 rfl rfl (by omega) (by omega) ?_
  intro m4 em4
  have hIm4 : zInv m4 := by rw [em4]; exact hI0.any (by omega) rfl (by decide) (by decide)
  have hFm4 : zFr W_32 m0 m4 := by rw [em4]; exact hF0.any rfl
  have fm4_54 : m4 54 = F54 := by rw [em4, zUp_fn (by decide)]; exact hG54
  clear em4
  refine zw_7 zr_32_28 rfl ?_
  refine zw_46r (s := 54) zr_32_29 rfl rfl rfl rfl ?_
  refine zw_3 zr_32_32 rfl ?_
  refine zw_45 zr_32_33 ⟨rfl, rfl⟩ ?_
  refine zw_48 (c := 54) (len := 10) zr_32_34 rfl rfl (by omega) (by omega) ?_
  intro x5 ex5
  have bx5 := ib_54 hIm4 (k := (a0).toNat) (by omega)
  rw [← ex5] at bx5
  have qx5 : x5 = F54 (a0).toNat := by rw [← fm4_54]; exact ex5
  clear ex5
  have z6 : x5 ≤ gY := by rw [qx5]; exact zY_at hp0 (by omega) (by omega)
  refine zw_push zr_32_35 ?_
  refine zw_16 zr_32_36 (by omega) ?_
  refine zw_49 (c := 54) (len := 10) zr_32_37 rfl rfl (by omega) (by omega) ?_
  intro m7 em7
  have hIm7 : zInv m7 := by rw [em7]; exact iu_54 hIm4 (by omega)
  have hFm7 : zFr W_32 m0 m7 := by rw [em7]; exact hFm4.any rfl
  have fm7_54 : m7 54 = zPt F54 ((a0).toNat) ((x5 + 1)) := by rw [em7]; exact (zUp_ff (m := m4)).trans (congrArg (fun q => zPt q ((a0).toNat) ((x5 + 1))) fm4_54)
  clear em7
  refine zw_7 zr_32_38 rfl ?_
  refine zw_46r (s := 54) zr_32_39 rfl rfl rfl rfl ?_
  refine zw_3 zr_32_42 rfl ?_
  refine zw_48 (c := 54) (len := 10) zr_32_43 rfl rfl (by omega) (by omega) ?_
  intro x8 ex8
  have bx8 := ib_54 hIm7 (k := (a0).toNat) (by omega)
  rw [← ex8] at bx8
  have qx8 : x8 = (zPt F54 ((a0).toNat) ((x5 + 1))) (a0).toNat := by rw [← fm7_54]; exact ex8
  refine zw_3 zr_32_44 rfl ?_
  refine zw_41_3 zr_32_45 ?_ ?_
  · intro h9
    refine zw_7 zr_32_49 rfl ?_
    refine zw_46r (s := 43) zr_32_50 rfl rfl rfl rfl ?_
    refine zw_46r (s := 44) zr_32_53 rfl rfl rfl rfl ?_
    refine zw_3 zr_32_56 rfl ?_
    refine zw_48 (c := 44) (len := 10) zr_32_57 rfl rfl (by omega) (by omega) ?_
    intro x10 ex10
    have bx10 := hIm7.ra (c := 44) (len := 10) (k := (a0).toNat) rfl (by omega)
    rw [← ex10] at bx10
    clear ex10
    refine zw_9 (L' := [(2, 52), (0, a0), (0, a1), (0, x10), (9, 0)]) zr_32_58 (Nat.le_of_ble_eq_true rfl) rfl ?_
    refine zw_push zr_32_59 ?_
    refine zw_10 (L' := [(2, 52), (0, a0), (0, a1), (0, x10), (0, 2)]) zr_32_60 (Nat.le_of_ble_eq_true rfl) rfl ?_
    have lp62_14 : ∀ (nlp62_14 : Nat) (i11 i12 : Int) (m13 : zM), zInv m13 → zFr W_32 m0 m13 → m13 54 = zPt F54 ((a0).toNat) ((x5 + 1)) → (-2147483648) ≤ i11 → i11 ≤ 2147483647 → 2 ≤ i12 → i12 ≤ 61 → (61 - i12).toNat < nlp62_14 → zW E (d) 32 62 [(2, 52), (0, a0), (0, a1), (0, i11), (0, i12)] [] m13 Q := by
      intro nlp62_14
      induction nlp62_14 with
      | zero =>
        intros
        exact absurd (by assumption : _ < 0) (Nat.not_lt_zero _)
      | succ nlp62_14 ihlp62_14 =>
        intro i11 i12 m13 hIm13 hFm13 fm13_54 li11 ui11 li12 ui12 hmlp62_14
        refine zw_4 zr_32_62 rfl ?_
        refine zw_3 zr_32_64 rfl ?_
        refine zw_41_2 zr_32_65 ?_ ?_
        · intro h16
          refine zw_7 zr_32_101 rfl ?_
          refine zw_3 zr_32_102 rfl ?_
          refine zw_3 zr_32_103 rfl ?_
          refine zw_36 zr_32_104 ?_
          refine zw_push zr_32_105 ?_
          refine zw_C zr_32_106 (Or.inl rfl) zm_31 rfl rfl ⟨Nat.le_of_ble_eq_true rfl, Nat.le_of_ble_eq_true rfl, Nat.le_of_ble_eq_true rfl, rfl, by decide⟩ (by omega) (th_31 (d := d - 1) (by omega) hIm13 (a0 := a0) (a1 := i11) (a2 := 1)      (by omega) (by omega) (by omega) ) ?_
          rintro _ m17 ⟨rfl, hIm17, gm17⟩
          have hFm17 : zFr W_32 m0 m17 := hFm13.trans gm17 rfl
          have fm17_54 : m17 54 = zPt F54 ((a0).toNat) ((x5 + 1)) := (funext fun k => gm17 54 k rfl).trans fm13_54
          show zW E (d) 32 109 [(2, 52), (0, a0), (0, a1), (0, i11), (0, i12)] [] m17 Q
          refine zw_R zr_32_109 (by decide) zm_32 (v := (9, 0)) rfl ?_
          rw [← hQ]; exact ⟨rfl, hIm17, hFm17, by rw [fm17_54]; exact zY_put hp0 (by omega) (by omega)⟩
        · intro h19
          refine zw_3 zr_32_68 rfl ?_
          refine zw_7 zr_32_69 rfl ?_
          refine zw_46r (s := 53) zr_32_70 rfl rfl rfl rfl ?_
          refine zw_3 zr_32_73 rfl ?_
          refine zw_push zr_32_74 ?_
          refine zw_18 zr_32_76 (by omega) ?_
          refine zw_7 zr_32_77 rfl ?_
          refine zw_46r (s := 54) zr_32_78 rfl rfl rfl rfl ?_
          refine zw_3 zr_32_81 rfl ?_
          refine zw_48 (c := 54) (len := 10) zr_32_82 rfl rfl (by omega) (by omega) ?_
          intro x20 ex20
          have bx20 := ib_54 hIm13 (k := (a0).toNat) (by omega)
          rw [← ex20] at bx20
          have qx20 : x20 = (zPt F54 ((a0).toNat) ((x5 + 1))) (a0).toNat := by rw [← fm13_54]; exact ex20
          clear ex20
          refine zw_4 zr_32_83 rfl ?_
          refine zw_17 zr_32_85 (by omega) ?_
          refine zw_push zr_32_86 ?_
          refine zw_20 zr_32_88 (by omega) (by omega) (by omega) (by omega) ?_
          refine zw_16 zr_32_89 (by omega) ?_
          refine zw_48 (c := 53) (len := 90) zr_32_90 rfl rfl (by omega) (by omega) ?_
          intro x21 ex21
          have bx21 := hIm13.ra (c := 53) (len := 90) (k := (((a0 * 9) + ((x20 - i12) % 9))).toNat) rfl (by omega)
          rw [← ex21] at bx21
          clear ex21
          refine zw_121 zr_32_91 (Nat.le_of_ble_eq_true rfl) (by omega) (by omega) (by omega) ?_
          intro x22 hx22a hx22b hx22c
          refine zw_9 (L' := [(2, 52), (0, a0), (0, a1), (0, x22), (0, i12)]) zr_32_94 (Nat.le_of_ble_eq_true rfl) rfl ?_
          refine zw_15 (c := 1) (L' := [(2, 52), (0, a0), (0, a1), (0, x22), (0, (i12 + 1))]) zr_32_95 rfl (by decide) (by omega) rfl ?_
          refine zw_42 zr_32_98 ?_
          exact zw_less (L := [(2, 52), (0, a0), (0, a1), (0, x22), (0, (i12 + 1))]) ⟨Or.inr rfl, Or.inr rfl, Or.inr rfl, Or.inr rfl, Or.inr rfl, trivial⟩ (ihlp62_14 (x22) ((i12 + 1)) m13 hIm13 hFm13   fm13_54 (by omega) (by omega) (by omega) (by omega)  (by omega))
    exact lp62_14 _ (x10) (2) m7 hIm7 hFm7  fm7_54 (by omega) (by omega) (by omega) (by omega)  (Nat.lt_succ_self _)
  · intro h23
    refine zw_R zr_32_48 (by decide) zm_32 (v := (9, 0)) rfl ?_
    rw [← hQ]; exact ⟨rfl, hIm7, hFm7, by rw [fm7_54]; exact zY_put hp0 (by omega) (by omega)⟩

abbrev W_33 : List (Nat × Nat) := [(52, 0), (52, 1), (52, 2), (53, 1000), (54, 1000)]
set_option maxHeartbeats 8000000 in
theorem th_33 {E : zE} {d : Nat} {m0 : zM} {a0 : Int} {a1 : Int} {a2 : Int} {gY : Int} {F54 : Nat → Int} (hd : 3 ≤ d) (hI0 : zInv m0) (hG54 : m0 54 = F54) (ha0 : (-2147483648) ≤ a0 ∧ a0 ≤ 2147483647) (ha1 : 0 ≤ a1 ∧ a1 ≤ 2) (ha2 : (-2147483648) ≤ a2 ∧ a2 ≤ 2147483647) (hp0 : zY F54 0 gY) (hp1 : 0 ≤ gY ∧ gY ≤ 59) : zC E d 33 [(2, 52), (0, a0), (0, a1), (0, a2)] m0 (fun v m' => v = (9, 0) ∧ zInv m' ∧ zFr W_33 m0 m' ∧ (zY (m' 54) 10 gY)) := by
  have hF0 : zFr W_33 m0 m0 := zFr.rfl
  generalize hQ : (fun (v : zV) (m' : zM) => v = (9, 0) ∧ zInv m' ∧ zFr W_33 m0 m' ∧ (zY (m' 54) 10 gY)) = Q
  show zW E d 33 0 [(2, 52), (0, a0), (0, a1), (0, a2), (9, 0), (9, 0), (9, 0)] [] m0 Q
  refine zw_3 zr_33_0 rfl ?_
  refine zw_C zr_33_1 (Or.inr rfl) zm_29 rfl rfl ⟨Nat.le_of_ble_eq_true rfl, Nat.le_of_ble_eq_true rfl, Nat.le_of_ble_eq_true rfl, rfl, by decide⟩ (by omega) (th_29 (d := d - 1) (by omega) hI0 (a0 := a0)      (by omega) ) ?_
  rintro _ _ ⟨r1, rfl, hr1a, hr1b, rfl⟩
  show zW E (d) 33 4 [(2, 52), (0, a0), (0, a1), (0, a2), (9, 0), (9, 0), (9, 0)] [(0, r1)] m0 Q
  refine zw_10 (L' := [(2, 52), (0, a0), (0, a1), (0, a2), (0, r1), (9, 0), (9, 0)]) zr_33_4 (Nat.le_of_ble_eq_true rfl) rfl ?_
  refine zw_7 zr_33_6 rfl ?_
  refine zw_46r (s := 43) zr_33_7 rfl rfl rfl rfl ?_
  refine zw_3 zr_33_10 rfl ?_
  refine zw_C zr_33_11 (Or.inl rfl) zm_30 rfl rfl ⟨Nat.le_of_ble_eq_true rfl, Nat.le_of_ble_eq_true rfl, Nat.le_of_ble_eq_true rfl, rfl, by decide⟩ (by omega) (th_30 (d := d - 1) (by omega) hI0 (a0 := a0)      (by omega) ) ?_
  rintro _ _ ⟨r2, rfl, hr2a, hr2b, rfl⟩
  show zW E (d) 33 14 [(2, 52), (0, a0), (0, a1), (0, a2), (0, r1), (9, 0), (9, 0)] [(0, r2)] m0 Q
  refine zw_10 (L' := [(2, 52), (0, a0), (0, a1), (0, a2), (0, r1), (0, r2), (9, 0)]) zr_33_14 (Nat.le_of_ble_eq_true rfl) rfl ?_
  refine zw_push zr_33_16 ?_
  refine zw_10 (L' := [(2, 52), (0, a0), (0, a1), (0, a2), (0, r1), (0, r2), (0, 0)]) zr_33_17 (Nat.le_of_ble_eq_true rfl) rfl ?_
  have lp19_6 : ∀ (nlp19_6 : Nat) (i3 : Int) (f5 : Nat → Int) (m4 : zM), zInv m4 → zFr W_33 m0 m4 → m4 54 = f5 → 0 ≤ i3 → i3 ≤ 10 → (zY f5 i3 gY) → (10 - i3).toNat < nlp19_6 → zW E (d) 33 19 [(2, 52), (0, a0), (0, a1), (0, a2), (0, r1), (0, r2), (0, i3)] [] m4 Q := by
    intro nlp19_6
    induction nlp19_6 with
    | zero =>
      intros
      exact absurd (by assumption : _ < 0) (Nat.not_lt_zero _)
    | succ nlp19_6 ihlp19_6 =>
      intro i3 f5 m4 hIm4 hFm4 fm4_54 li3 ui3 hv0lp19_6 hmlp19_6
      refine zw_4 zr_33_19 rfl ?_
      refine zw_7 zr_33_21 rfl ?_
      refine zw_46r (s := 1) zr_33_22 rfl rfl rfl rfl ?_
      obtain ⟨f8, ef8⟩ : ∃ v, m4 1 0 = v := ⟨_, rfl⟩
      have bf8 := ib_1_0 hIm4
      rw [ef8] at bf8
      refine zw_46i zr_33_25 ef8 rfl rfl rfl ?_
      refine zw_41_3 zr_33_28 ?_ ?_
      · intro h9
        refine zw_R zr_33_115 (by decide) zm_33 (v := (9, 0)) rfl ?_
        rw [← hQ]; exact ⟨rfl, hIm4, hFm4, by rw [fm4_54]; exact zY_mono hv0lp19_6 (by omega)⟩
      · intro h11
        refine zw_3 zr_33_31 rfl ?_
        refine zw_4 zr_33_32 rfl ?_
        refine zw_25h zr_33_34 ?_
        intro x12 hx12a hx12b
        refine zw_push zr_33_35 ?_
        refine zw_21m zr_33_36 (by omega) (by omega) ?_
        intro x13 hx13a hx13b
        refine zw_40_4 zr_33_37 ?_ ?_
        · intro h14
          refine zw_3 zr_33_43 rfl ?_
          refine zw_40_4 zr_33_44 ?_ ?_
          · intro h15
            refine zw_3 zr_33_68 rfl ?_
            refine zw_push zr_33_69 ?_
            refine zw_41_4 zr_33_70 ?_ ?_
            · intro h16
              refine zw_7 zr_33_83 rfl ?_
              refine zw_4 zr_33_84 rfl ?_
              refine zw_7 zr_33_86 rfl ?_
              refine zw_46r (s := 43) zr_33_87 rfl rfl rfl rfl ?_
              refine zw_46r (s := 44) zr_33_90 rfl rfl rfl rfl ?_
              refine zw_4 zr_33_93 rfl ?_
              refine zw_48 (c := 44) (len := 10) zr_33_95 rfl rfl (by omega) (by omega) ?_
              intro x17 ex17
              have bx17 := hIm4.ra (c := 44) (len := 10) (k := (i3).toNat) rfl (by omega)
              rw [← ex17] at bx17
              clear ex17
              refine zw_4 zr_33_96 rfl ?_
              refine zw_18h zr_33_98 ?_
              intro x18 hx18a hx18b
              refine zw_4 zr_33_99 rfl ?_
              refine zw_17h zr_33_101 ?_
              intro x19 hx19a hx19b
              refine zw_36 zr_33_102 ?_
              refine zw_4 zr_33_103 rfl ?_
              refine zw_36 zr_33_105 ?_
              refine zw_C zr_33_106 (Or.inl rfl) zm_31 rfl rfl ⟨Nat.le_of_ble_eq_true rfl, Nat.le_of_ble_eq_true rfl, Nat.le_of_ble_eq_true rfl, rfl, by decide⟩ (by omega) (th_31 (d := d - 1) (by omega) hIm4 (a0 := i3) (a1 := x19) (a2 := r1)      (by omega) (by omega) (by omega) ) ?_
              rintro _ m20 ⟨rfl, hIm20, gm20⟩
              have hFm20 : zFr W_33 m0 m20 := hFm4.trans gm20 rfl
              have km20_1_0 : m20 1 0 = f8 := (gm20 1 0 rfl).trans ef8
              have fm20_54 : m20 54 = f5 := (funext fun k => gm20 54 k rfl).trans fm4_54
              show zW E (d) 33 109 [(2, 52), (0, a0), (0, a1), (0, a2), (0, r1), (0, r2), (0, i3)] [] m20 Q
              refine zw_15 (c := 1) (L' := [(2, 52), (0, a0), (0, a1), (0, a2), (0, r1), (0, r2), (0, (i3 + 1))]) zr_33_109 rfl (by decide) (by omega) rfl ?_
              refine zw_42 zr_33_112 ?_
              exact zw_less (L := [(2, 52), (0, a0), (0, a1), (0, a2), (0, r1), (0, r2), (0, (i3 + 1))]) ⟨Or.inr rfl, Or.inr rfl, Or.inr rfl, Or.inr rfl, Or.inr rfl, Or.inr rfl, Or.inr rfl, trivial⟩ (ihlp19_6 ((i3 + 1)) (f5) m20 hIm20 hFm20   fm20_54 (by omega) (by omega) (by first | assumption | exact zY_mono hv0lp19_6 (by omega)) (by omega))
            · intro h22
              refine zw_7 zr_33_73 rfl ?_
              refine zw_4 zr_33_74 rfl ?_
              refine zw_3 zr_33_76 rfl ?_
              refine zw_C zr_33_77 (Or.inl rfl) zm_32 rfl rfl ⟨Nat.le_of_ble_eq_true rfl, Nat.le_of_ble_eq_true rfl, Nat.le_of_ble_eq_true rfl, rfl, by decide⟩ (by omega) (th_32 (d := d - 1) (by omega) hIm4 (a0 := i3) (a1 := a2)  (gY := gY) (F54 := f5)  fm4_54 (by omega) (by omega) (hv0lp19_6) (by omega)) ?_
              rintro _ m25 ⟨rfl, hIm25, gm25, po0_m25⟩
              have hFm25 : zFr W_33 m0 m25 := hFm4.trans gm25 rfl
              have km25_1_0 : m25 1 0 = f8 := (gm25 1 0 rfl).trans ef8
              obtain ⟨f26, fm25_54⟩ : ∃ f, m25 54 = f := ⟨_, rfl⟩
              try rw [fm25_54] at po0_m25
              show zW E (d) 33 80 [(2, 52), (0, a0), (0, a1), (0, a2), (0, r1), (0, r2), (0, i3)] [] m25 Q
              refine zw_42 zr_33_80 ?_
              refine zw_15 (c := 1) (L' := [(2, 52), (0, a0), (0, a1), (0, a2), (0, r1), (0, r2), (0, (i3 + 1))]) zr_33_109 rfl (by decide) (by omega) rfl ?_
              refine zw_42 zr_33_112 ?_
              exact zw_less (L := [(2, 52), (0, a0), (0, a1), (0, a2), (0, r1), (0, r2), (0, (i3 + 1))]) ⟨Or.inr rfl, Or.inr rfl, Or.inr rfl, Or.inr rfl, Or.inr rfl, Or.inr rfl, Or.inr rfl, trivial⟩ (ihlp19_6 ((i3 + 1)) (f26) m25 hIm25 hFm25   fm25_54 (by omega) (by omega) (by first | assumption | exact zY_mono hv0lp19_6 (by omega)) (by omega))
          · intro h28
            refine zw_7 zr_33_47 rfl ?_
            refine zw_4 zr_33_48 rfl ?_
            refine zw_7 zr_33_50 rfl ?_
            refine zw_46r (s := 43) zr_33_51 rfl rfl rfl rfl ?_
            refine zw_46r (s := 44) zr_33_54 rfl rfl rfl rfl ?_
            refine zw_4 zr_33_57 rfl ?_
            refine zw_48 (c := 44) (len := 10) zr_33_59 rfl rfl (by omega) (by omega) ?_
            intro x29 ex29
            have bx29 := hIm4.ra (c := 44) (len := 10) (k := (i3).toNat) rfl (by omega)
            rw [← ex29] at bx29
            clear ex29
            refine zw_36 zr_33_60 ?_
            refine zw_push zr_33_61 ?_
            refine zw_C zr_33_62 (Or.inl rfl) zm_31 rfl rfl ⟨Nat.le_of_ble_eq_true rfl, Nat.le_of_ble_eq_true rfl, Nat.le_of_ble_eq_true rfl, rfl, by decide⟩ (by omega) (th_31 (d := d - 1) (by omega) hIm4 (a0 := i3) (a1 := x29) (a2 := 1)      (by omega) (by omega) (by omega) ) ?_
            rintro _ m30 ⟨rfl, hIm30, gm30⟩
            have hFm30 : zFr W_33 m0 m30 := hFm4.trans gm30 rfl
            have km30_1_0 : m30 1 0 = f8 := (gm30 1 0 rfl).trans ef8
            have fm30_54 : m30 54 = f5 := (funext fun k => gm30 54 k rfl).trans fm4_54
            show zW E (d) 33 65 [(2, 52), (0, a0), (0, a1), (0, a2), (0, r1), (0, r2), (0, i3)] [] m30 Q
            refine zw_42 zr_33_65 ?_
            refine zw_15 (c := 1) (L' := [(2, 52), (0, a0), (0, a1), (0, a2), (0, r1), (0, r2), (0, (i3 + 1))]) zr_33_109 rfl (by decide) (by omega) rfl ?_
            refine zw_42 zr_33_112 ?_
            exact zw_less (L := [(2, 52), (0, a0), (0, a1), (0, a2), (0, r1), (0, r2), (0, (i3 + 1))]) ⟨Or.inr rfl, Or.inr rfl, Or.inr rfl, Or.inr rfl, Or.inr rfl, Or.inr rfl, Or.inr rfl, trivial⟩ (ihlp19_6 ((i3 + 1)) (f5) m30 hIm30 hFm30   fm30_54 (by omega) (by omega) (by first | assumption | exact zY_mono hv0lp19_6 (by omega)) (by omega))
        · intro h32
          refine zw_42 zr_33_40 ?_
          refine zw_15 (c := 1) (L' := [(2, 52), (0, a0), (0, a1), (0, a2), (0, r1), (0, r2), (0, (i3 + 1))]) zr_33_109 rfl (by decide) (by omega) rfl ?_
          refine zw_42 zr_33_112 ?_
          exact zw_less (L := [(2, 52), (0, a0), (0, a1), (0, a2), (0, r1), (0, r2), (0, (i3 + 1))]) ⟨Or.inr rfl, Or.inr rfl, Or.inr rfl, Or.inr rfl, Or.inr rfl, Or.inr rfl, Or.inr rfl, trivial⟩ (ihlp19_6 ((i3 + 1)) (f5) m4 hIm4 hFm4   fm4_54 (by omega) (by omega) (by first | assumption | exact zY_mono hv0lp19_6 (by omega)) (by omega))
  exact lp19_6 _ (0) (F54) m0 hI0 hF0  hG54 (by omega) (by omega) (hp0) (Nat.lt_succ_self _)

abbrev W_34 : List (Nat × Nat) := [(43, 5), (44, 1000), (45, 1), (45, 5), (45, 6), (45, 7), (45, 8), (45, 9), (46, 1000), (47, 1000), (48, 1000), (49, 1000), (50, 1000), (51, 1000), (52, 0), (52, 1), (52, 2), (53, 1000), (54, 1000)]
set_option maxHeartbeats 8000000 in
theorem th_34 {E : zE} {d : Nat} {m0 : zM} {a0 : Int} {a1 : Int} {a2 : Int} {g0 : Int} {g1 : Int} {F5 : Nat → Int} {F6 : Nat → Int} {F7 : Nat → Int} {F8 : Nat → Int} {F10 : Nat → Int} {F11 : Nat → Int} {F44 : Nat → Int} {F48 : Nat → Int} {F50 : Nat → Int} {F51 : Nat → Int} {F9 : Nat → Int} {F54 : Nat → Int} (hd : 95 ≤ d) (hI0 : zInv m0) (hg0 : m0 1 1 = g0) (hg1 : m0 1 2 = g1) (hG5 : m0 5 = F5) (hG6 : m0 6 = F6) (hG7 : m0 7 = F7) (hG8 : m0 8 = F8) (hG10 : m0 10 = F10) (hG11 : m0 11 = F11) (hG44 : m0 44 = F44) (hG48 : m0 48 = F48) (hG50 : m0 50 = F50) (hG51 : m0 51 = F51) (hG9 : m0 9 = F9) (hG54 : m0 54 = F54) (ha0 : 0 ≤ a0 ∧ a0 ≤ 3) (ha1 : 0 ≤ a1 ∧ a1 ≤ 2) (ha2 : (-2147483648) ≤ a2 ∧ a2 ≤ 2147483647) : zC E d 34 [(2, 52), (0, a0), (0, a1), (0, a2)] m0 (fun v m' => v = (9, 0) ∧ zInv m' ∧ zFr W_34 m0 m') := by
  have hF0 : zFr W_34 m0 m0 := zFr.rfl
  have bg0 := ib_1_1 hI0
  rw [hg0] at bg0
  have bg1 := ib_1_2 hI0
  rw [hg1] at bg1
  generalize hQ : (fun (v : zV) (m' : zM) => v = (9, 0) ∧ zInv m' ∧ zFr W_34 m0 m') = Q
  show zW E d 34 0 [(2, 52), (0, a0), (0, a1), (0, a2), (9, 0), (9, 0)] [] m0 Q
  refine zw_7 zr_34_0 rfl ?_
  refine zw_push zr_34_1 ?_
  refine zw_47 (c := 52) zr_34_2 rfl ⟨rfl, by decide, rfl⟩ ?_
  intro m1 em1
  have hIm1 : zInv m1 := by rw [em1]; exact hI0.bd (r := 52) (k := 0) (lo := (-1)) (hi := 9) rfl (by omega) (by decide) (by decide) (by decide)
  have hFm1 : zFr W_34 m0 m1 := by rw [em1]; exact hF0.up rfl
  have km1_1_1 : m1 1 1 = g0 := by rw [em1, zUp_ne (by omega)]; exact hg0
  have km1_1_2 : m1 1 2 = g1 := by rw [em1, zUp_ne (by omega)]; exact hg1
  have km1_52_0 : m1 52 0 = (-1) := by rw [em1]; exact zUp_eq _ _ _ _
  have fm1_5 : m1 5 = F5 := by rw [em1, zUp_fn (by decide)]; exact hG5
  have fm1_6 : m1 6 = F6 := by rw [em1, zUp_fn (by decide)]; exact hG6
  have fm1_7 : m1 7 = F7 := by rw [em1, zUp_fn (by decide)]; exact hG7
  have fm1_8 : m1 8 = F8 := by rw [em1, zUp_fn (by decide)]; exact hG8
  have fm1_10 : m1 10 = F10 := by rw [em1, zUp_fn (by decide)]; exact hG10
  have fm1_11 : m1 11 = F11 := by rw [em1, zUp_fn (by decide)]; exact hG11
  have fm1_44 : m1 44 = F44 := by rw [em1, zUp_fn (by decide)]; exact hG44
  have fm1_48 : m1 48 = F48 := by rw [em1, zUp_fn (by decide)]; exact hG48
  have fm1_50 : m1 50 = F50 := by rw [em1, zUp_fn (by decide)]; exact hG50
  have fm1_51 : m1 51 = F51 := by rw [em1, zUp_fn (by decide)]; exact hG51
  have fm1_9 : m1 9 = F9 := by rw [em1, zUp_fn (by decide)]; exact hG9
  have fm1_54 : m1 54 = F54 := by rw [em1, zUp_fn (by decide)]; exact hG54
  clear em1
  refine zw_7 zr_34_5 rfl ?_
  refine zw_46r (s := 54) zr_34_6 rfl rfl rfl rfl ?_
  refine zw_push zr_34_9 ?_
  refine zw_C zr_34_10 (Or.inr rfl) zm_4 rfl rfl ⟨Nat.le_of_ble_eq_true rfl, Nat.le_of_ble_eq_true rfl, Nat.le_of_ble_eq_true rfl, rfl, by decide⟩ (by omega) (th_4_54 (d := d - 1) (by omega) hIm1 (a0 := 0)   (F54 := F54)  fm1_54 (by omega) ) ?_
  rintro _ m2 ⟨rfl, hIm2, gm2, po0_m2⟩
  have hFm2 : zFr W_34 m0 m2 := hFm1.trans gm2 rfl
  have km2_1_1 : m2 1 1 = g0 := (gm2 1 1 rfl).trans km1_1_1
  have km2_1_2 : m2 1 2 = g1 := (gm2 1 2 rfl).trans km1_1_2
  have km2_52_0 : m2 52 0 = (-1) := (gm2 52 0 rfl).trans km1_52_0
  have fm2_5 : m2 5 = F5 := (funext fun k => gm2 5 k rfl).trans fm1_5
  have fm2_6 : m2 6 = F6 := (funext fun k => gm2 6 k rfl).trans fm1_6
  have fm2_7 : m2 7 = F7 := (funext fun k => gm2 7 k rfl).trans fm1_7
  have fm2_8 : m2 8 = F8 := (funext fun k => gm2 8 k rfl).trans fm1_8
  have fm2_10 : m2 10 = F10 := (funext fun k => gm2 10 k rfl).trans fm1_10
  have fm2_11 : m2 11 = F11 := (funext fun k => gm2 11 k rfl).trans fm1_11
  have fm2_44 : m2 44 = F44 := (funext fun k => gm2 44 k rfl).trans fm1_44
  have fm2_48 : m2 48 = F48 := (funext fun k => gm2 48 k rfl).trans fm1_48
  have fm2_50 : m2 50 = F50 := (funext fun k => gm2 50 k rfl).trans fm1_50
  have fm2_51 : m2 51 = F51 := (funext fun k => gm2 51 k rfl).trans fm1_51
  have fm2_9 : m2 9 = F9 := (funext fun k => gm2 9 k rfl).trans fm1_9
  obtain ⟨f3, fm2_54⟩ : ∃ f, m2 54 = f := ⟨_, rfl⟩
  try rw [fm2_54] at po0_m2
  show zW E (d) 34 13 [(2, 52), (0, a0), (0, a1), (0, a2), (9, 0), (9, 0)] [] m2 Q
  refine zw_7 zr_34_13 rfl ?_
  refine zw_46r (s := 43) zr_34_14 rfl rfl rfl rfl ?_
  refine zw_3 zr_34_17 rfl ?_
  refine zw_C zr_34_18 (Or.inl rfl) zm_16 rfl rfl ⟨Nat.le_of_ble_eq_true rfl, Nat.le_of_ble_eq_true rfl, Nat.le_of_ble_eq_true rfl, rfl, by decide⟩ (by omega) (th_16 (d := d - 1) (by omega) hIm2 (a0 := a0)   (F9 := F9) (F10 := F10) (F11 := F11) (F44 := F44) (F48 := F48) (F50 := F50) (F51 := F51)  fm2_9 fm2_10 fm2_11 fm2_44 fm2_48 fm2_50 fm2_51 (by omega) ) ?_
  rintro _ m4 ⟨rfl, hIm4, gm4, po0_m4, po1_m4⟩
  have hFm4 : zFr W_34 m0 m4 := hFm2.trans gm4 rfl
  have km4_1_1 : m4 1 1 = g0 := (gm4 1 1 rfl).trans km2_1_1
  have km4_1_2 : m4 1 2 = g1 := (gm4 1 2 rfl).trans km2_1_2
  have km4_52_0 : m4 52 0 = (-1) := (gm4 52 0 rfl).trans km2_52_0
  have fm4_5 : m4 5 = F5 := (funext fun k => gm4 5 k rfl).trans fm2_5
  have fm4_6 : m4 6 = F6 := (funext fun k => gm4 6 k rfl).trans fm2_6
  have fm4_7 : m4 7 = F7 := (funext fun k => gm4 7 k rfl).trans fm2_7
  have fm4_8 : m4 8 = F8 := (funext fun k => gm4 8 k rfl).trans fm2_8
  have fm4_10 : m4 10 = F10 := (funext fun k => gm4 10 k rfl).trans fm2_10
  have fm4_11 : m4 11 = F11 := (funext fun k => gm4 11 k rfl).trans fm2_11
  obtain ⟨f5, fm4_44⟩ : ∃ f, m4 44 = f := ⟨_, rfl⟩
  try rw [fm4_44] at po1_m4
  obtain ⟨f6, fm4_48⟩ : ∃ f, m4 48 = f := ⟨_, rfl⟩
  try rw [fm4_48] at po0_m4
  obtain ⟨f7, fm4_50⟩ : ∃ f, m4 50 = f := ⟨_, rfl⟩
  try rw [fm4_50] at po1_m4
  obtain ⟨f8, fm4_51⟩ : ∃ f, m4 51 = f := ⟨_, rfl⟩
  try rw [fm4_51] at po1_m4
  have fm4_9 : m4 9 = F9 := (funext fun k => gm4 9 k rfl).trans fm2_9
  have fm4_54 : m4 54 = f3 := (funext fun k => gm4 54 k rfl).trans fm2_54
  obtain ⟨f9, ef9⟩ : ∃ v, m4 45 1 = v := ⟨_, rfl⟩
  have bf9 := hIm4.fi (c := 45) (k := 1) rfl
  rw [ef9] at bf9
  rw [ef9] at po0_m4
  obtain ⟨f10, ef10⟩ : ∃ v, m4 45 8 = v := ⟨_, rfl⟩
  have bf10 := ib_45_8 hIm4
  rw [ef10] at bf10
  rw [ef10] at po0_m4
  show zW E (d) 34 21 [(2, 52), (0, a0), (0, a1), (0, a2), (9, 0), (9, 0)] [] m4 Q
  refine zw_push zr_34_21 ?_
  refine zw_10 (L' := [(2, 52), (0, a0), (0, a1), (0, a2), (0, 0), (9, 0)]) zr_34_22 (Nat.le_of_ble_eq_true rfl) rfl ?_
  refine zw_push zr_34_24 ?_
  refine zw_10 (L' := [(2, 52), (0, a0), (0, a1), (0, a2), (0, 0), (0, 0)]) zr_34_25 (Nat.le_of_ble_eq_true rfl) rfl ?_
  have lp27_18 : ∀ (nlp27_18 : Nat) (i11 i12 : Int) (f14 : Nat → Int) (f15 : Nat → Int) (f16 : Nat → Int) (f17 : Nat → Int) (m13 : zM), zInv m13 → zFr W_34 m0 m13 → m13 1 1 = g0 → m13 1 2 = g1 → m13 45 1 = f9 → m13 45 8 = f10 → m13 5 = F5 → m13 6 = F6 → m13 7 = F7 → m13 8 = F8 → m13 10 = F10 → m13 11 = F11 → m13 44 = f14 → m13 48 = f6 → m13 50 = f15 → m13 51 = f16 → m13 9 = F9 → m13 54 = f17 → (-2147483648) ≤ i11 → i11 ≤ 2147483647 → 0 ≤ i12 → i12 ≤ 60 → (zY f17 0 i12) → (zPb (f14, f15, f16) i12) → (i12 ≤ g0) → (60 - i12).toNat < nlp27_18 → zW E (d) 34 27 [(2, 52), (0, a0), (0, a1), (0, a2), (0, i11), (0, i12)] [] m13 Q := by
    intro nlp27_18
    induction nlp27_18 with
    | zero =>
      intros
      exact absurd (by assumption : _ < 0) (Nat.not_lt_zero _)
    | succ nlp27_18 ihlp27_18 =>
      intro i11 i12 f14 f15 f16 f17 m13 hIm13 hFm13 km13_1_1 km13_1_2 km13_45_1 km13_45_8 fm13_5 fm13_6 fm13_7 fm13_8 fm13_10 fm13_11 fm13_44 fm13_48 fm13_50 fm13_51 fm13_9 fm13_54 li11 ui11 li12 ui12 hv0lp27_18 hv1lp27_18 hv2lp27_18 hmlp27_18
      refine zw_4 zr_34_27 rfl ?_
      refine zw_7 zr_34_29 rfl ?_
      refine zw_46r (s := 1) zr_34_30 rfl rfl rfl rfl ?_
      refine zw_46i zr_34_33 km13_1_1 rfl rfl rfl ?_
      refine zw_41_3 zr_34_36 ?_ ?_
      · intro h20
        refine zw_R zr_34_91 (by decide) zm_34 (v := (9, 0)) rfl ?_
        rw [← hQ]; exact ⟨rfl, hIm13, hFm13⟩
      · intro h21
        refine zw_7 zr_34_39 rfl ?_
        refine zw_46r (s := 43) zr_34_40 rfl rfl rfl rfl ?_
        refine zw_4 zr_34_43 rfl ?_
        refine zw_C zr_34_45 (Or.inl rfl) zm_26 rfl rfl ⟨Nat.le_of_ble_eq_true rfl, Nat.le_of_ble_eq_true rfl, Nat.le_of_ble_eq_true rfl, rfl, by decide⟩ (by omega) (th_26 (d := d - 1) (by omega) hIm13 (a0 := i12) (g0 := f9) (g1 := f10) (g2 := g1) (gS := a0) (gN := i12) (F5 := F5) (F6 := F6) (F7 := F7) (F8 := F8) (F10 := F10) (F11 := F11) (F44 := f14) (F48 := f6) (F50 := f15) (F51 := f16) km13_45_1 km13_45_8 km13_1_2 fm13_5 fm13_6 fm13_7 fm13_8 fm13_10 fm13_11 fm13_44 fm13_48 fm13_50 fm13_51 (by omega) (by assumption) (hv1lp27_18) (by omega)) ?_
        rintro _ m26 ⟨rfl, hIm26, gm26, po0_m26, po1_m26, po2_m26⟩
        have hFm26 : zFr W_34 m0 m26 := hFm13.trans gm26 rfl
        have km26_1_1 : m26 1 1 = g0 := (gm26 1 1 rfl).trans km13_1_1
        have km26_1_2 : m26 1 2 = g1 := (gm26 1 2 rfl).trans km13_1_2
        have km26_45_1 : m26 45 1 = f9 := (gm26 45 1 rfl).trans km13_45_1
        have km26_45_8 : m26 45 8 = f10 := (gm26 45 8 rfl).trans km13_45_8
        have fm26_5 : m26 5 = F5 := (funext fun k => gm26 5 k rfl).trans fm13_5
        have fm26_6 : m26 6 = F6 := (funext fun k => gm26 6 k rfl).trans fm13_6
        have fm26_7 : m26 7 = F7 := (funext fun k => gm26 7 k rfl).trans fm13_7
        have fm26_8 : m26 8 = F8 := (funext fun k => gm26 8 k rfl).trans fm13_8
        have fm26_10 : m26 10 = F10 := (funext fun k => gm26 10 k rfl).trans fm13_10
        have fm26_11 : m26 11 = F11 := (funext fun k => gm26 11 k rfl).trans fm13_11
        obtain ⟨f27, fm26_44⟩ : ∃ f, m26 44 = f := ⟨_, rfl⟩
        try rw [fm26_44] at po0_m26
        try rw [fm26_44] at po1_m26
        have fm26_48 : m26 48 = f6 := (funext fun k => gm26 48 k rfl).trans fm13_48
        obtain ⟨f28, fm26_50⟩ : ∃ f, m26 50 = f := ⟨_, rfl⟩
        try rw [fm26_50] at po0_m26
        try rw [fm26_50] at po1_m26
        obtain ⟨f29, fm26_51⟩ : ∃ f, m26 51 = f := ⟨_, rfl⟩
        try rw [fm26_51] at po0_m26
        try rw [fm26_51] at po1_m26
        have fm26_9 : m26 9 = F9 := (funext fun k => gm26 9 k rfl).trans fm13_9
        have fm26_54 : m26 54 = f17 := (funext fun k => gm26 54 k rfl).trans fm13_54
        obtain ⟨f30, ef30⟩ : ∃ v, m26 43 5 = v := ⟨_, rfl⟩
        have bf30 := hIm26.fi (c := 43) (k := 5) rfl
        rw [ef30] at bf30
        rw [ef30] at po0_m26
        rw [ef30] at po2_m26
        show zW E (d) 34 48 [(2, 52), (0, a0), (0, a1), (0, a2), (0, i11), (0, i12)] [] m26 Q
        refine zw_4 zr_34_48 rfl ?_
        refine zw_7 zr_34_50 rfl ?_
        refine zw_46r (s := 1) zr_34_51 rfl rfl rfl rfl ?_
        refine zw_4 zr_34_54 rfl ?_
        refine zw_C zr_34_56 (Or.inl rfl) zm_27 rfl rfl ⟨Nat.le_of_ble_eq_true rfl, Nat.le_of_ble_eq_true rfl, Nat.le_of_ble_eq_true rfl, rfl, by decide⟩ (by omega) (P := (fun v m' => zW E (d) 34 59 [(2, 52), (0, a0), (0, a1), (0, a2), (0, i11), (0, i12)] (if v.1 = 9 then [(0, i11)] else v :: [(0, i11)]) m' Q)) ?_ (fun _ _ h => h)
        generalize hQ1 : (fun v m' => zW E (d) 34 59 [(2, 52), (0, a0), (0, a1), (0, a2), (0, i11), (0, i12)] (if v.1 = 9 then [(0, i11)] else v :: [(0, i11)]) m' Q) = Q1
        show zW E (d - 1) 27 0 [(2, 1), (0, i12)] [] m26 Q1
        refine zw_push zr_27_0 ?_
        refine zw_7 zr_27_1 rfl ?_
        refine zw_46r (s := 6) zr_27_2 rfl rfl rfl rfl ?_
        refine zw_3 zr_27_5 rfl ?_
        refine zw_48 (c := 6) (len := 60) zr_27_6 rfl rfl (by omega) (by omega) ?_
        intro x31 ex31
        have bx31 := ib_6 hIm26 (k := (i12).toNat) (by omega)
        rw [← ex31] at bx31
        clear ex31
        refine zw_24h zr_27_7 ?_
        intro x32 hx32a hx32b
        refine zw_push zr_27_8 ?_
        refine zw_7 zr_27_9 rfl ?_
        refine zw_46r (s := 7) zr_27_10 rfl rfl rfl rfl ?_
        refine zw_3 zr_27_13 rfl ?_
        refine zw_48 (c := 7) (len := 60) zr_27_14 rfl rfl (by omega) (by omega) ?_
        intro x33 ex33
        have bx33 := ib_7 hIm26 (k := (i12).toNat) (by omega)
        rw [← ex33] at bx33
        clear ex33
        refine zw_24h zr_27_15 ?_
        intro x34 hx34a hx34b
        refine zw_22h zr_27_16 ?_
        intro x35 hx35a hx35b
        refine zw_R zr_27_17 (by decide) zm_27 (v := (0, x35)) rfl ?_
        rw [← hQ1]
        show zW E (d) 34 59 [(2, 52), (0, a0), (0, a1), (0, a2), (0, i11), (0, i12)] [(0, x35), (0, i11)] m26 Q
        refine zw_22h zr_34_59 ?_
        intro x36 hx36a hx36b
        refine zw_10 (L' := [(2, 52), (0, a0), (0, a1), (0, a2), (0, x36), (0, i12)]) zr_34_60 (Nat.le_of_ble_eq_true rfl) rfl ?_
        refine zw_7 zr_34_62 rfl ?_
        refine zw_46r (s := 1) zr_34_63 rfl rfl rfl rfl ?_
        refine zw_4 zr_34_66 rfl ?_
        refine zw_C zr_34_68 (Or.inl rfl) zm_28 rfl rfl ⟨Nat.le_of_ble_eq_true rfl, Nat.le_of_ble_eq_true rfl, Nat.le_of_ble_eq_true rfl, rfl, by decide⟩ (by omega) (P := (fun v m' => zW E (d) 34 71 [(2, 52), (0, a0), (0, a1), (0, a2), (0, x36), (0, i12)] (if v.1 = 9 then [] else v :: []) m' Q)) ?_ (fun _ _ h => h)
        generalize hQ1 : (fun v m' => zW E (d) 34 71 [(2, 52), (0, a0), (0, a1), (0, a2), (0, x36), (0, i12)] (if v.1 = 9 then [] else v :: []) m' Q) = Q1
        show zW E (d - 1) 28 0 [(2, 1), (0, i12)] [] m26 Q1
        refine zw_3 zr_28_0 rfl ?_
        refine zw_push zr_28_1 ?_
        refine zw_16 zr_28_2 (by omega) ?_
        refine zw_7 zr_28_3 rfl ?_
        refine zw_46i zr_28_4 km26_1_1 rfl rfl rfl ?_
        refine zw_41_3 zr_28_7 ?_ ?_
        · intro h37
          refine zw_push zr_28_27 ?_
          refine zw_42 zr_28_28 ?_
          refine zw_R zr_28_32 (by decide) zm_28 (v := (0, 1)) (zRetB (by omega)) ?_
          rw [← hQ1]
          show zW E (d) 34 71 [(2, 52), (0, a0), (0, a1), (0, a2), (0, x36), (0, i12)] [(0, 1)] m26 Q
          refine zw_40_1 zr_34_71 ?_ ?_
          · intro h38; omega
          · intro h39
            refine zw_7 zr_34_74 rfl ?_
            refine zw_4 zr_34_75 rfl ?_
            refine zw_3 zr_34_77 rfl ?_
            refine zw_3 zr_34_78 rfl ?_
            refine zw_C zr_34_79 (Or.inl rfl) zm_33 rfl rfl ⟨Nat.le_of_ble_eq_true rfl, Nat.le_of_ble_eq_true rfl, Nat.le_of_ble_eq_true rfl, rfl, by decide⟩ (by omega) (th_33 (d := d - 1) (by omega) hIm26 (a0 := x36) (a1 := a1) (a2 := a2)  (gY := i12) (F54 := f17)  fm26_54 (by omega) (by omega) (by omega) (hv0lp27_18) (by omega)) ?_
            rintro _ m42 ⟨rfl, hIm42, gm42, po0_m42⟩
            have hFm42 : zFr W_34 m0 m42 := hFm26.trans gm42 rfl
            have km42_1_1 : m42 1 1 = g0 := (gm42 1 1 rfl).trans km26_1_1
            have km42_1_2 : m42 1 2 = g1 := (gm42 1 2 rfl).trans km26_1_2
            have km42_45_1 : m42 45 1 = f9 := (gm42 45 1 rfl).trans km26_45_1
            have km42_45_8 : m42 45 8 = f10 := (gm42 45 8 rfl).trans km26_45_8
            have km42_43_5 : m42 43 5 = f30 := (gm42 43 5 rfl).trans ef30
            have fm42_5 : m42 5 = F5 := (funext fun k => gm42 5 k rfl).trans fm26_5
            have fm42_6 : m42 6 = F6 := (funext fun k => gm42 6 k rfl).trans fm26_6
            have fm42_7 : m42 7 = F7 := (funext fun k => gm42 7 k rfl).trans fm26_7
            have fm42_8 : m42 8 = F8 := (funext fun k => gm42 8 k rfl).trans fm26_8
            have fm42_10 : m42 10 = F10 := (funext fun k => gm42 10 k rfl).trans fm26_10
            have fm42_11 : m42 11 = F11 := (funext fun k => gm42 11 k rfl).trans fm26_11
            have fm42_44 : m42 44 = f27 := (funext fun k => gm42 44 k rfl).trans fm26_44
            have fm42_48 : m42 48 = f6 := (funext fun k => gm42 48 k rfl).trans fm26_48
            have fm42_50 : m42 50 = f28 := (funext fun k => gm42 50 k rfl).trans fm26_50
            have fm42_51 : m42 51 = f29 := (funext fun k => gm42 51 k rfl).trans fm26_51
            have fm42_9 : m42 9 = F9 := (funext fun k => gm42 9 k rfl).trans fm26_9
            obtain ⟨f43, fm42_54⟩ : ∃ f, m42 54 = f := ⟨_, rfl⟩
            try rw [fm42_54] at po0_m42
            show zW E (d) 34 82 [(2, 52), (0, a0), (0, a1), (0, a2), (0, x36), (0, i12)] [] m42 Q
            refine zw_push zr_34_82 ?_
            refine zw_10 (L' := [(2, 52), (0, a0), (0, a1), (0, a2), (0, 0), (0, i12)]) zr_34_83 (Nat.le_of_ble_eq_true rfl) rfl ?_
            refine zw_15 (c := 1) (L' := [(2, 52), (0, a0), (0, a1), (0, a2), (0, 0), (0, (i12 + 1))]) zr_34_85 rfl (by decide) (by omega) rfl ?_
            refine zw_42 zr_34_88 ?_
            exact zw_less (L := [(2, 52), (0, a0), (0, a1), (0, a2), (0, 0), (0, (i12 + 1))]) ⟨Or.inr rfl, Or.inr rfl, Or.inr rfl, Or.inr rfl, Or.inr rfl, Or.inr rfl, trivial⟩ (ihlp27_18 (0) ((i12 + 1)) (f27) (f28) (f29) (f43) m42 hIm42 hFm42  km42_1_1 km42_1_2 km42_45_1 km42_45_8 fm42_5 fm42_6 fm42_7 fm42_8 fm42_10 fm42_11 fm42_44 fm42_48 fm42_50 fm42_51 fm42_9 fm42_54 (by omega) (by omega) (by omega) (by omega) (by first | exact zY_next hv0lp27_18 | exact zY_next (by assumption)) (by first | exact po1_m26) (by omega) (by omega))
        · intro h46
          refine zw_7 zr_28_10 rfl ?_
          refine zw_46r (s := 5) zr_28_11 rfl rfl rfl rfl ?_
          refine zw_3 zr_28_14 rfl ?_
          refine zw_push zr_28_15 ?_
          refine zw_16 zr_28_16 (by omega) ?_
          refine zw_48 (c := 5) (len := 60) zr_28_17 rfl rfl (by omega) (by omega) ?_
          intro x47 ex47
          have bx47 := ib_5 hIm26 (k := ((i12 + 1)).toNat) (by omega)
          rw [← ex47] at bx47
          clear ex47
          refine zw_7 zr_28_18 rfl ?_
          refine zw_46r (s := 5) zr_28_19 rfl rfl rfl rfl ?_
          refine zw_3 zr_28_22 rfl ?_
          refine zw_48 (c := 5) (len := 60) zr_28_23 rfl rfl (by omega) (by omega) ?_
          intro x48 ex48
          have bx48 := ib_5 hIm26 (k := (i12).toNat) (by omega)
          rw [← ex48] at bx48
          clear ex48
          refine zw_41_1 zr_28_24 ?_ ?_
          · intro h49
            refine zw_push zr_28_31 ?_
            refine zw_R zr_28_32 (by decide) zm_28 (v := (0, 0)) (zRetB (by omega)) ?_
            rw [← hQ1]
            show zW E (d) 34 71 [(2, 52), (0, a0), (0, a1), (0, a2), (0, x36), (0, i12)] [(0, 0)] m26 Q
            refine zw_40_1 zr_34_71 ?_ ?_
            · intro h50
              refine zw_15 (c := 1) (L' := [(2, 52), (0, a0), (0, a1), (0, a2), (0, x36), (0, (i12 + 1))]) zr_34_85 rfl (by decide) (by omega) rfl ?_
              refine zw_42 zr_34_88 ?_
              exact zw_less (L := [(2, 52), (0, a0), (0, a1), (0, a2), (0, x36), (0, (i12 + 1))]) ⟨Or.inr rfl, Or.inr rfl, Or.inr rfl, Or.inr rfl, Or.inr rfl, Or.inr rfl, trivial⟩ (ihlp27_18 (x36) ((i12 + 1)) (f27) (f28) (f29) (f17) m26 hIm26 hFm26  km26_1_1 km26_1_2 km26_45_1 km26_45_8 fm26_5 fm26_6 fm26_7 fm26_8 fm26_10 fm26_11 fm26_44 fm26_48 fm26_50 fm26_51 fm26_9 fm26_54 (by omega) (by omega) (by omega) (by omega) (by first | exact zY_next hv0lp27_18 | exact zY_next (by assumption)) (by first | exact po1_m26) (by omega) (by omega))
            · intro h53; omega
          · intro h54
            refine zw_push zr_28_27 ?_
            refine zw_42 zr_28_28 ?_
            refine zw_R zr_28_32 (by decide) zm_28 (v := (0, 1)) (zRetB (by omega)) ?_
            rw [← hQ1]
            show zW E (d) 34 71 [(2, 52), (0, a0), (0, a1), (0, a2), (0, x36), (0, i12)] [(0, 1)] m26 Q
            refine zw_40_1 zr_34_71 ?_ ?_
            · intro h55; omega
            · intro h56
              refine zw_7 zr_34_74 rfl ?_
              refine zw_4 zr_34_75 rfl ?_
              refine zw_3 zr_34_77 rfl ?_
              refine zw_3 zr_34_78 rfl ?_
              refine zw_C zr_34_79 (Or.inl rfl) zm_33 rfl rfl ⟨Nat.le_of_ble_eq_true rfl, Nat.le_of_ble_eq_true rfl, Nat.le_of_ble_eq_true rfl, rfl, by decide⟩ (by omega) (th_33 (d := d - 1) (by omega) hIm26 (a0 := x36) (a1 := a1) (a2 := a2)  (gY := i12) (F54 := f17)  fm26_54 (by omega) (by omega) (by omega) (hv0lp27_18) (by omega)) ?_
              rintro _ m59 ⟨rfl, hIm59, gm59, po0_m59⟩
              have hFm59 : zFr W_34 m0 m59 := hFm26.trans gm59 rfl
              have km59_1_1 : m59 1 1 = g0 := (gm59 1 1 rfl).trans km26_1_1
              have km59_1_2 : m59 1 2 = g1 := (gm59 1 2 rfl).trans km26_1_2
              have km59_45_1 : m59 45 1 = f9 := (gm59 45 1 rfl).trans km26_45_1
              have km59_45_8 : m59 45 8 = f10 := (gm59 45 8 rfl).trans km26_45_8
              have km59_43_5 : m59 43 5 = f30 := (gm59 43 5 rfl).trans ef30
              have fm59_5 : m59 5 = F5 := (funext fun k => gm59 5 k rfl).trans fm26_5
              have fm59_6 : m59 6 = F6 := (funext fun k => gm59 6 k rfl).trans fm26_6
              have fm59_7 : m59 7 = F7 := (funext fun k => gm59 7 k rfl).trans fm26_7
              have fm59_8 : m59 8 = F8 := (funext fun k => gm59 8 k rfl).trans fm26_8
              have fm59_10 : m59 10 = F10 := (funext fun k => gm59 10 k rfl).trans fm26_10
              have fm59_11 : m59 11 = F11 := (funext fun k => gm59 11 k rfl).trans fm26_11
              have fm59_44 : m59 44 = f27 := (funext fun k => gm59 44 k rfl).trans fm26_44
              have fm59_48 : m59 48 = f6 := (funext fun k => gm59 48 k rfl).trans fm26_48
              have fm59_50 : m59 50 = f28 := (funext fun k => gm59 50 k rfl).trans fm26_50
              have fm59_51 : m59 51 = f29 := (funext fun k => gm59 51 k rfl).trans fm26_51
              have fm59_9 : m59 9 = F9 := (funext fun k => gm59 9 k rfl).trans fm26_9
              obtain ⟨f60, fm59_54⟩ : ∃ f, m59 54 = f := ⟨_, rfl⟩
              try rw [fm59_54] at po0_m59
              show zW E (d) 34 82 [(2, 52), (0, a0), (0, a1), (0, a2), (0, x36), (0, i12)] [] m59 Q
              refine zw_push zr_34_82 ?_
              refine zw_10 (L' := [(2, 52), (0, a0), (0, a1), (0, a2), (0, 0), (0, i12)]) zr_34_83 (Nat.le_of_ble_eq_true rfl) rfl ?_
              refine zw_15 (c := 1) (L' := [(2, 52), (0, a0), (0, a1), (0, a2), (0, 0), (0, (i12 + 1))]) zr_34_85 rfl (by decide) (by omega) rfl ?_
              refine zw_42 zr_34_88 ?_
              exact zw_less (L := [(2, 52), (0, a0), (0, a1), (0, a2), (0, 0), (0, (i12 + 1))]) ⟨Or.inr rfl, Or.inr rfl, Or.inr rfl, Or.inr rfl, Or.inr rfl, Or.inr rfl, trivial⟩ (ihlp27_18 (0) ((i12 + 1)) (f27) (f28) (f29) (f60) m59 hIm59 hFm59  km59_1_1 km59_1_2 km59_45_1 km59_45_8 fm59_5 fm59_6 fm59_7 fm59_8 fm59_10 fm59_11 fm59_44 fm59_48 fm59_50 fm59_51 fm59_9 fm59_54 (by omega) (by omega) (by omega) (by omega) (by first | exact zY_next hv0lp27_18 | exact zY_next (by assumption)) (by first | exact po1_m26) (by omega) (by omega))
  exact lp27_18 _ (0) (0) (f5) (f7) (f8) (f3) m4 hIm4 hFm4  km4_1_1 km4_1_2 ef9 ef10 fm4_5 fm4_6 fm4_7 fm4_8 fm4_10 fm4_11 fm4_44 fm4_48 fm4_50 fm4_51 fm4_9 fm4_54 (by omega) (by omega) (by omega) (by omega) (zY_fil (by assumption)) (zPb_0 po1_m4 (by have z := ib_9 hI0 (k := a0.toNat) (by omega); rw [hG9] at z; omega)) (by omega) (Nat.lt_succ_self _)

abbrev W_123 : List (Nat × Nat) := [(42, 0), (42, 1), (43, 5), (44, 1000), (45, 1), (45, 5), (45, 6), (45, 7), (45, 8), (45, 9), (46, 1000), (47, 1000), (48, 1000), (49, 1000), (50, 1000), (51, 1000), (52, 0), (52, 1), (52, 2), (53, 1000), (54, 1000)]
set_option maxHeartbeats 8000000 in
theorem th_123 {E : zE} {d : Nat} {m0 : zM} {a0 : Int} {a1 : Int} {a2 : Int} (hd : 96 ≤ d) (hI0 : zInv m0) (ha0 : (-2147483648) ≤ a0 ∧ a0 ≤ 2147483647) (ha1 : (-2147483648) ≤ a1 ∧ a1 ≤ 2147483647) (ha2 : (-2147483648) ≤ a2 ∧ a2 ≤ 2147483647) : zC E d 123 [(2, 0), (0, a0), (0, a1), (0, a2)] m0 (fun v m' => ∃ r : Int, v = (0, r) ∧ (-2) ≤ r ∧ r ≤ 9 ∧ zInv m' ∧ zFr W_123 m0 m') := by
  have hF0 : zFr W_123 m0 m0 := zFr.rfl
  generalize hQ : (fun (v : zV) (m' : zM) => ∃ r : Int, v = (0, r) ∧ (-2) ≤ r ∧ r ≤ 9 ∧ zInv m' ∧ zFr W_123 m0 m') = Q
  show zW E d 123 0 [(2, 0), (0, a0), (0, a1), (0, a2)] [] m0 Q
  refine zw_3 zr_123_0 rfl ?_
  refine zw_C zr_123_1 (Or.inr rfl) zm_104 rfl rfl ⟨Nat.le_of_ble_eq_true rfl, Nat.le_of_ble_eq_true rfl, Nat.le_of_ble_eq_true rfl, rfl, by decide⟩ (by omega) (P := (fun v m' => zW E (d) 123 4 [(2, 0), (0, a0), (0, a1), (0, a2)] (if v.1 = 9 then [] else v :: []) m' Q)) ?_ (fun _ _ h => h)
  generalize hQ1 : (fun v m' => zW E (d) 123 4 [(2, 0), (0, a0), (0, a1), (0, a2)] (if v.1 = 9 then [] else v :: []) m' Q) = Q1
  show zW E (d - 1) 104 0 [(0, a0)] [] m0 Q1
  refine zw_3 zr_104_0 rfl ?_
  refine zw_push zr_104_1 ?_
  refine zw_push zr_104_2 ?_
  refine zw_C zr_104_3 (Or.inr rfl) zm_100 rfl rfl ⟨Nat.le_of_ble_eq_true rfl, Nat.le_of_ble_eq_true rfl, Nat.le_of_ble_eq_true rfl, rfl, by decide⟩ (by omega) (P := (fun v m' => zW E (d - 1) 104 6 [(0, a0)] (if v.1 = 9 then [] else v :: []) m' Q1)) ?_ (fun _ _ h => h)
  generalize hQ2 : (fun v m' => zW E (d - 1) 104 6 [(0, a0)] (if v.1 = 9 then [] else v :: []) m' Q1) = Q2
  show zW E (d - 1 - 1) 100 0 [(0, a0), (0, 0), (0, 3)] [] m0 Q2
  refine zw_3 zr_100_0 rfl ?_
  refine zw_3 zr_100_1 rfl ?_
  refine zw_41_0 zr_100_2 ?_ ?_
  · intro h1
    refine zw_push zr_100_14 ?_
    refine zw_R zr_100_15 (by decide) zm_100 (v := (0, 0)) (zRetB (by omega)) ?_
    rw [← hQ2]
    show zW E (d - 1) 104 6 [(0, a0)] [(0, 0)] m0 Q1
    refine zw_R zr_104_6 (by decide) zm_104 (v := (0, 0)) (zRetB (by omega)) ?_
    rw [← hQ1]
    show zW E (d) 123 4 [(2, 0), (0, a0), (0, a1), (0, a2)] [(0, 0)] m0 Q
    refine zw_40_1 zr_123_4 ?_ ?_
    · intro h2
      refine zw_push zr_123_16 ?_
      refine zw_R zr_123_18 (by decide) zm_123 (v := (0, (-2))) rfl ?_
      rw [← hQ]; exact ⟨_, rfl, by omega, by omega, hI0, hF0⟩
    · intro h3; omega
  · intro h4
    refine zw_3 zr_100_5 rfl ?_
    refine zw_3 zr_100_6 rfl ?_
    refine zw_41_2 zr_100_7 ?_ ?_
    · intro h5
      refine zw_push zr_100_14 ?_
      refine zw_R zr_100_15 (by decide) zm_100 (v := (0, 0)) (zRetB (by omega)) ?_
      rw [← hQ2]
      show zW E (d - 1) 104 6 [(0, a0)] [(0, 0)] m0 Q1
      refine zw_R zr_104_6 (by decide) zm_104 (v := (0, 0)) (zRetB (by omega)) ?_
      rw [← hQ1]
      show zW E (d) 123 4 [(2, 0), (0, a0), (0, a1), (0, a2)] [(0, 0)] m0 Q
      refine zw_40_1 zr_123_4 ?_ ?_
      · intro h6
        refine zw_push zr_123_16 ?_
        refine zw_R zr_123_18 (by decide) zm_123 (v := (0, (-2))) rfl ?_
        rw [← hQ]; exact ⟨_, rfl, by omega, by omega, hI0, hF0⟩
      · intro h7; omega
    · intro h8
      refine zw_push zr_100_10 ?_
      refine zw_42 zr_100_11 ?_
      refine zw_R zr_100_15 (by decide) zm_100 (v := (0, 1)) (zRetB (by omega)) ?_
      rw [← hQ2]
      show zW E (d - 1) 104 6 [(0, a0)] [(0, 1)] m0 Q1
      refine zw_R zr_104_6 (by decide) zm_104 (v := (0, 1)) (zRetB (by omega)) ?_
      rw [← hQ1]
      show zW E (d) 123 4 [(2, 0), (0, a0), (0, a1), (0, a2)] [(0, 1)] m0 Q
      refine zw_40_1 zr_123_4 ?_ ?_
      · intro h9; omega
      · intro h10
        refine zw_3 zr_123_7 rfl ?_
        refine zw_push zr_123_8 ?_
        refine zw_push zr_123_9 ?_
        refine zw_C zr_123_10 (Or.inr rfl) zm_100 rfl rfl ⟨Nat.le_of_ble_eq_true rfl, Nat.le_of_ble_eq_true rfl, Nat.le_of_ble_eq_true rfl, rfl, by decide⟩ (by omega) (P := (fun v m' => zW E (d) 123 13 [(2, 0), (0, a0), (0, a1), (0, a2)] (if v.1 = 9 then [] else v :: []) m' Q)) ?_ (fun _ _ h => h)
        generalize hQ1 : (fun v m' => zW E (d) 123 13 [(2, 0), (0, a0), (0, a1), (0, a2)] (if v.1 = 9 then [] else v :: []) m' Q) = Q1
        show zW E (d - 1) 100 0 [(0, a1), (0, 0), (0, 2)] [] m0 Q1
        refine zw_3 zr_100_0 rfl ?_
        refine zw_3 zr_100_1 rfl ?_
        refine zw_41_0 zr_100_2 ?_ ?_
        · intro h11
          refine zw_push zr_100_14 ?_
          refine zw_R zr_100_15 (by decide) zm_100 (v := (0, 0)) (zRetB (by omega)) ?_
          rw [← hQ1]
          show zW E (d) 123 13 [(2, 0), (0, a0), (0, a1), (0, a2)] [(0, 0)] m0 Q
          refine zw_40_4 zr_123_13 ?_ ?_
          · intro h12; omega
          · intro h13
            refine zw_push zr_123_16 ?_
            refine zw_R zr_123_18 (by decide) zm_123 (v := (0, (-2))) rfl ?_
            rw [← hQ]; exact ⟨_, rfl, by omega, by omega, hI0, hF0⟩
        · intro h14
          refine zw_3 zr_100_5 rfl ?_
          refine zw_3 zr_100_6 rfl ?_
          refine zw_41_2 zr_100_7 ?_ ?_
          · intro h15
            refine zw_push zr_100_14 ?_
            refine zw_R zr_100_15 (by decide) zm_100 (v := (0, 0)) (zRetB (by omega)) ?_
            rw [← hQ1]
            show zW E (d) 123 13 [(2, 0), (0, a0), (0, a1), (0, a2)] [(0, 0)] m0 Q
            refine zw_40_4 zr_123_13 ?_ ?_
            · intro h16; omega
            · intro h17
              refine zw_push zr_123_16 ?_
              refine zw_R zr_123_18 (by decide) zm_123 (v := (0, (-2))) rfl ?_
              rw [← hQ]; exact ⟨_, rfl, by omega, by omega, hI0, hF0⟩
          · intro h18
            refine zw_push zr_100_10 ?_
            refine zw_42 zr_100_11 ?_
            refine zw_R zr_100_15 (by decide) zm_100 (v := (0, 1)) (zRetB (by omega)) ?_
            rw [← hQ1]
            show zW E (d) 123 13 [(2, 0), (0, a0), (0, a1), (0, a2)] [(0, 1)] m0 Q
            refine zw_40_4 zr_123_13 ?_ ?_
            · intro h19
              refine zw_3 zr_123_19 rfl ?_
              refine zw_push zr_123_20 ?_
              refine zw_41_4 zr_123_21 ?_ ?_
              · intro h20
                refine zw_7 zr_123_37 rfl ?_
                refine zw_46r (s := 52) zr_123_38 rfl rfl rfl rfl ?_
                refine zw_3 zr_123_41 rfl ?_
                refine zw_3 zr_123_42 rfl ?_
                refine zw_3 zr_123_43 rfl ?_
                obtain ⟨f21, ef21⟩ : ∃ v, m0 1 1 = v := ⟨_, rfl⟩
                have bf21 := ib_1_1 hI0
                rw [ef21] at bf21
                obtain ⟨f22, ef22⟩ : ∃ v, m0 1 2 = v := ⟨_, rfl⟩
                have bf22 := ib_1_2 hI0
                rw [ef22] at bf22
                refine zw_C zr_123_44 (Or.inl rfl) zm_34 rfl rfl ⟨Nat.le_of_ble_eq_true rfl, Nat.le_of_ble_eq_true rfl, Nat.le_of_ble_eq_true rfl, rfl, by decide⟩ (by omega) (th_34 (d := d - 1) (by omega) hI0 (a0 := a0) (a1 := a1) (a2 := a2) (g0 := f21) (g1 := f22)  (F5 := m0 5) (F6 := m0 6) (F7 := m0 7) (F8 := m0 8) (F10 := m0 10) (F11 := m0 11) (F44 := m0 44) (F48 := m0 48) (F50 := m0 50) (F51 := m0 51) (F9 := m0 9) (F54 := m0 54) ef21 ef22 rfl rfl rfl rfl rfl rfl rfl rfl rfl rfl rfl rfl (by omega) (by omega) (by omega) ) ?_
                rintro _ m23 ⟨rfl, hIm23, gm23⟩
                have hFm23 : zFr W_123 m0 m23 := hF0.trans gm23 rfl
                have km23_1_1 : m23 1 1 = f21 := (gm23 1 1 rfl).trans ef21
                have km23_1_2 : m23 1 2 = f22 := (gm23 1 2 rfl).trans ef22
                show zW E (d) 123 47 [(2, 0), (0, a0), (0, a1), (0, a2)] [] m23 Q
                refine zw_3 zr_123_47 rfl ?_
                refine zw_push zr_123_48 ?_
                refine zw_41_4 zr_123_49 ?_ ?_
                · intro h24
                  refine zw_7 zr_123_84 rfl ?_
                  refine zw_46r (s := 52) zr_123_85 rfl rfl rfl rfl ?_
                  obtain ⟨f25, ef25⟩ : ∃ v, m23 52 0 = v := ⟨_, rfl⟩
                  have bf25 := ib_52_0 hIm23
                  rw [ef25] at bf25
                  refine zw_46i zr_123_88 ef25 rfl rfl rfl ?_
                  refine zw_R zr_123_91 (by decide) zm_123 (v := (0, f25)) rfl ?_
                  rw [← hQ]; exact ⟨_, rfl, by omega, by omega, hIm23, hFm23⟩
                · intro h26
                  refine zw_7 zr_123_52 rfl ?_
                  refine zw_46r (s := 52) zr_123_53 rfl rfl rfl rfl ?_
                  obtain ⟨f27, ef27⟩ : ∃ v, m23 52 0 = v := ⟨_, rfl⟩
                  have bf27 := ib_52_0 hIm23
                  rw [ef27] at bf27
                  refine zw_46i zr_123_56 ef27 rfl rfl rfl ?_
                  refine zw_push zr_123_59 ?_
                  refine zw_41_1 zr_123_60 ?_ ?_
                  · intro h28
                    refine zw_7 zr_123_84 rfl ?_
                    refine zw_46r (s := 52) zr_123_85 rfl rfl rfl rfl ?_
                    refine zw_46i zr_123_88 ef27 rfl rfl rfl ?_
                    refine zw_R zr_123_91 (by decide) zm_123 (v := (0, f27)) rfl ?_
                    rw [← hQ]; exact ⟨_, rfl, by omega, by omega, hIm23, hFm23⟩
                  · intro h29
                    refine zw_7 zr_123_63 rfl ?_
                    refine zw_46r (s := 42) zr_123_64 rfl rfl rfl rfl ?_
                    refine zw_7 zr_123_67 rfl ?_
                    refine zw_46r (s := 52) zr_123_68 rfl rfl rfl rfl ?_
                    obtain ⟨f30, ef30⟩ : ∃ v, m23 52 1 = v := ⟨_, rfl⟩
                    have bf30 := hIm23.fl (c := 52) (k := 1) rfl
                    rw [ef30] at bf30
                    refine zw_46l zr_123_71 ef30 rfl rfl rfl ?_
                    refine zw_7 zr_123_74 rfl ?_
                    refine zw_46r (s := 52) zr_123_75 rfl rfl rfl rfl ?_
                    obtain ⟨f31, ef31⟩ : ∃ v, m23 52 2 = v := ⟨_, rfl⟩
                    have bf31 := hIm23.fl (c := 52) (k := 2) rfl
                    rw [ef31] at bf31
                    refine zw_46l zr_123_78 ef31 rfl rfl rfl ?_
                    refine zw_C zr_123_81 (Or.inl rfl) zm_38 rfl rfl ⟨Nat.le_of_ble_eq_true rfl, Nat.le_of_ble_eq_true rfl, Nat.le_of_ble_eq_true rfl, rfl, by decide⟩ (by omega) (th_38 (d := d - 1) (by omega) hIm23 (a0 := f30) (a1 := f31)      (by omega) (by omega) ) ?_
                    rintro _ m32 ⟨rfl, hIm32, gm32⟩
                    have hFm32 : zFr W_123 m0 m32 := hFm23.trans gm32 rfl
                    have km32_1_1 : m32 1 1 = f21 := (gm32 1 1 rfl).trans km23_1_1
                    have km32_1_2 : m32 1 2 = f22 := (gm32 1 2 rfl).trans km23_1_2
                    have km32_52_0 : m32 52 0 = f27 := (gm32 52 0 rfl).trans ef27
                    have km32_52_1 : m32 52 1 = f30 := (gm32 52 1 rfl).trans ef30
                    have km32_52_2 : m32 52 2 = f31 := (gm32 52 2 rfl).trans ef31
                    show zW E (d) 123 84 [(2, 0), (0, a0), (0, a1), (0, a2)] [] m32 Q
                    refine zw_7 zr_123_84 rfl ?_
                    refine zw_46r (s := 52) zr_123_85 rfl rfl rfl rfl ?_
                    refine zw_46i zr_123_88 km32_52_0 rfl rfl rfl ?_
                    refine zw_R zr_123_91 (by decide) zm_123 (v := (0, f27)) rfl ?_
                    rw [← hQ]; exact ⟨_, rfl, by omega, by omega, hIm32, hFm32⟩
              · intro h33
                refine zw_3 zr_123_24 rfl ?_
                refine zw_push zr_123_25 ?_
                refine zw_push zr_123_26 ?_
                refine zw_C zr_123_28 (Or.inr rfl) zm_100 rfl rfl ⟨Nat.le_of_ble_eq_true rfl, Nat.le_of_ble_eq_true rfl, Nat.le_of_ble_eq_true rfl, rfl, by decide⟩ (by omega) (P := (fun v m' => zW E (d) 123 31 [(2, 0), (0, a0), (0, a1), (0, a2)] (if v.1 = 9 then [] else v :: []) m' Q)) ?_ (fun _ _ h => h)
                generalize hQ1 : (fun v m' => zW E (d) 123 31 [(2, 0), (0, a0), (0, a1), (0, a2)] (if v.1 = 9 then [] else v :: []) m' Q) = Q1
                show zW E (d - 1) 100 0 [(0, a2), (0, 1), (0, 9)] [] m0 Q1
                refine zw_3 zr_100_0 rfl ?_
                refine zw_3 zr_100_1 rfl ?_
                refine zw_41_0 zr_100_2 ?_ ?_
                · intro h34
                  refine zw_push zr_100_14 ?_
                  refine zw_R zr_100_15 (by decide) zm_100 (v := (0, 0)) (zRetB (by omega)) ?_
                  rw [← hQ1]
                  show zW E (d) 123 31 [(2, 0), (0, a0), (0, a1), (0, a2)] [(0, 0)] m0 Q
                  refine zw_40_4 zr_123_31 ?_ ?_
                  · intro h35; omega
                  · intro h36
                    refine zw_push zr_123_34 ?_
                    refine zw_R zr_123_36 (by decide) zm_123 (v := (0, (-2))) rfl ?_
                    rw [← hQ]; exact ⟨_, rfl, by omega, by omega, hI0, hF0⟩
                · intro h37
                  refine zw_3 zr_100_5 rfl ?_
                  refine zw_3 zr_100_6 rfl ?_
                  refine zw_41_2 zr_100_7 ?_ ?_
                  · intro h38
                    refine zw_push zr_100_14 ?_
                    refine zw_R zr_100_15 (by decide) zm_100 (v := (0, 0)) (zRetB (by omega)) ?_
                    rw [← hQ1]
                    show zW E (d) 123 31 [(2, 0), (0, a0), (0, a1), (0, a2)] [(0, 0)] m0 Q
                    refine zw_40_4 zr_123_31 ?_ ?_
                    · intro h39; omega
                    · intro h40
                      refine zw_push zr_123_34 ?_
                      refine zw_R zr_123_36 (by decide) zm_123 (v := (0, (-2))) rfl ?_
                      rw [← hQ]; exact ⟨_, rfl, by omega, by omega, hI0, hF0⟩
                  · intro h41
                    refine zw_push zr_100_10 ?_
                    refine zw_42 zr_100_11 ?_
                    refine zw_R zr_100_15 (by decide) zm_100 (v := (0, 1)) (zRetB (by omega)) ?_
                    rw [← hQ1]
                    show zW E (d) 123 31 [(2, 0), (0, a0), (0, a1), (0, a2)] [(0, 1)] m0 Q
                    refine zw_40_4 zr_123_31 ?_ ?_
                    · intro h42
                      refine zw_7 zr_123_37 rfl ?_
                      refine zw_46r (s := 52) zr_123_38 rfl rfl rfl rfl ?_
                      refine zw_3 zr_123_41 rfl ?_
                      refine zw_3 zr_123_42 rfl ?_
                      refine zw_3 zr_123_43 rfl ?_
                      obtain ⟨f43, ef43⟩ : ∃ v, m0 1 1 = v := ⟨_, rfl⟩
                      have bf43 := ib_1_1 hI0
                      rw [ef43] at bf43
                      obtain ⟨f44, ef44⟩ : ∃ v, m0 1 2 = v := ⟨_, rfl⟩
                      have bf44 := ib_1_2 hI0
                      rw [ef44] at bf44
                      refine zw_C zr_123_44 (Or.inl rfl) zm_34 rfl rfl ⟨Nat.le_of_ble_eq_true rfl, Nat.le_of_ble_eq_true rfl, Nat.le_of_ble_eq_true rfl, rfl, by decide⟩ (by omega) (th_34 (d := d - 1) (by omega) hI0 (a0 := a0) (a1 := a1) (a2 := a2) (g0 := f43) (g1 := f44)  (F5 := m0 5) (F6 := m0 6) (F7 := m0 7) (F8 := m0 8) (F10 := m0 10) (F11 := m0 11) (F44 := m0 44) (F48 := m0 48) (F50 := m0 50) (F51 := m0 51) (F9 := m0 9) (F54 := m0 54) ef43 ef44 rfl rfl rfl rfl rfl rfl rfl rfl rfl rfl rfl rfl (by omega) (by omega) (by omega) ) ?_
                      rintro _ m45 ⟨rfl, hIm45, gm45⟩
                      have hFm45 : zFr W_123 m0 m45 := hF0.trans gm45 rfl
                      have km45_1_1 : m45 1 1 = f43 := (gm45 1 1 rfl).trans ef43
                      have km45_1_2 : m45 1 2 = f44 := (gm45 1 2 rfl).trans ef44
                      show zW E (d) 123 47 [(2, 0), (0, a0), (0, a1), (0, a2)] [] m45 Q
                      refine zw_3 zr_123_47 rfl ?_
                      refine zw_push zr_123_48 ?_
                      refine zw_41_4 zr_123_49 ?_ ?_
                      · intro h46
                        refine zw_7 zr_123_84 rfl ?_
                        refine zw_46r (s := 52) zr_123_85 rfl rfl rfl rfl ?_
                        obtain ⟨f47, ef47⟩ : ∃ v, m45 52 0 = v := ⟨_, rfl⟩
                        have bf47 := ib_52_0 hIm45
                        rw [ef47] at bf47
                        refine zw_46i zr_123_88 ef47 rfl rfl rfl ?_
                        refine zw_R zr_123_91 (by decide) zm_123 (v := (0, f47)) rfl ?_
                        rw [← hQ]; exact ⟨_, rfl, by omega, by omega, hIm45, hFm45⟩
                      · intro h48; omega
                    · intro h49; omega
            · intro h50; omega

abbrev W_193 : List (Nat × Nat) := [(69, 5), (69, 6), (69, 7), (69, 9), (69, 11), (69, 13), (69, 17), (69, 18), (69, 23), (73, 1000), (74, 1000), (75, 1000), (76, 1000), (77, 1000), (78, 1000), (82, 1000)]
set_option maxHeartbeats 8000000 in
theorem th_193 {E : zE} {d : Nat} {m0 : zM} {a0 : Int} {a1 : Int} (hd : 7 ≤ d) (hI0 : zInv m0) (ha0 : 0 ≤ a0 ∧ a0 ≤ 3) (ha1 : 0 ≤ a1 ∧ a1 ≤ 9) : zC E d 193 [(2, 69), (0, a0), (0, a1)] m0 (fun v m' => v = (9, 0) ∧ zInv m' ∧ zFr W_193 m0 m') := by
  have hF0 : zFr W_193 m0 m0 := zFr.rfl
  generalize hQ : (fun (v : zV) (m' : zM) => v = (9, 0) ∧ zInv m' ∧ zFr W_193 m0 m') = Q
  show zW E d 193 0 [(2, 69), (0, a0), (0, a1), (9, 0)] [] m0 Q
  refine zw_7 zr_193_0 rfl ?_
  refine zw_push zr_193_1 ?_
  refine zw_47 (c := 69) zr_193_2 rfl ⟨rfl, by decide, rfl⟩ ?_
  intro m1 em1
  have hIm1 : zInv m1 := by rw [em1]; exact hI0.bd (r := 69) (k := 23) (lo := 0) (hi := 100) rfl (by omega) (by decide) (by decide) (by decide)
  have hFm1 : zFr W_193 m0 m1 := by rw [em1]; exact hF0.up rfl
  have km1_69_23 : m1 69 23 = 0 := by rw [em1]; exact zUp_eq _ _ _ _
  clear em1
  refine zw_push zr_193_5 ?_
  refine zw_9 (L' := [(2, 69), (0, a0), (0, a1), (0, 0)]) zr_193_6 (Nat.le_of_ble_eq_true rfl) rfl ?_
  have lp7_5 : ∀ (nlp7_5 : Nat) (i2 p4 : Int) (m3 : zM), zInv m3 → zFr W_193 m0 m3 → m3 69 23 = p4 → 0 ≤ i2 → i2 ≤ 100 → 0 ≤ p4 → p4 ≤ 100 → (p4 ≤ i2) → (100 - i2).toNat < nlp7_5 → zW E (d) 193 7 [(2, 69), (0, a0), (0, a1), (0, i2)] [] m3 Q := by
    intro nlp7_5
    induction nlp7_5 with
    | zero =>
      intros
      exact absurd (by assumption : _ < 0) (Nat.not_lt_zero _)
    | succ nlp7_5 ihlp7_5 =>
      intro i2 p4 m3 hIm3 hFm3 km3_69_23 li2 ui2 lp4 up4 hv0lp7_5 hmlp7_5
      refine zw_3 zr_193_7 rfl ?_
      refine zw_push zr_193_8 ?_
      refine zw_41_3 zr_193_10 ?_ ?_
      · intro h7
        refine zw_R zr_193_59 (by decide) zm_193 (v := (9, 0)) rfl ?_
        rw [← hQ]; exact ⟨rfl, hIm3, hFm3⟩
      · intro h8
        refine zw_7 zr_193_13 rfl ?_
        refine zw_3 zr_193_14 rfl ?_
        refine zw_3 zr_193_15 rfl ?_
        refine zw_C zr_193_16 (Or.inl rfl) zm_172 rfl rfl ⟨Nat.le_of_ble_eq_true rfl, Nat.le_of_ble_eq_true rfl, Nat.le_of_ble_eq_true rfl, rfl, by decide⟩ (by omega) (th_172 (d := d - 1) (by omega) hIm3 (a0 := a1) (a1 := i2)   (F70 := m3 70)  rfl (by omega) (by omega) ) ?_
        rintro _ _ ⟨r9, rfl, hr9a, hr9b, rfl, po0_r9⟩
        show zW E (d) 193 19 [(2, 69), (0, a0), (0, a1), (0, i2)] [(0, r9)] m3 Q
        refine zw_40_1 zr_193_19 ?_ ?_
        · intro h10
          refine zw_15 (c := 1) (L' := [(2, 69), (0, a0), (0, a1), (0, (i2 + 1))]) zr_193_53 rfl (by decide) (by omega) rfl ?_
          refine zw_42 zr_193_56 ?_
          exact zw_less (L := [(2, 69), (0, a0), (0, a1), (0, (i2 + 1))]) ⟨Or.inr rfl, Or.inr rfl, Or.inr rfl, Or.inr rfl, trivial⟩ (ihlp7_5 ((i2 + 1)) (p4) m3 hIm3 hFm3  km3_69_23 (by omega) (by omega) (by omega) (by omega) (by omega) (by omega))
        · intro h11
          refine zw_7 zr_193_22 rfl ?_
          refine zw_3 zr_193_23 rfl ?_
          refine zw_3 zr_193_24 rfl ?_
          obtain ⟨f12, ef12⟩ : ∃ v, m3 70 823 = v := ⟨_, rfl⟩
          have bf12 : 0 ≤ m3 70 823 ∧ m3 70 823 ≤ 60 := ib_70_meetings hIm3 (by omega)
          rw [ef12] at bf12
          refine zw_C zr_193_25 (Or.inl rfl) zm_167 rfl rfl ⟨Nat.le_of_ble_eq_true rfl, Nat.le_of_ble_eq_true rfl, Nat.le_of_ble_eq_true rfl, rfl, by decide⟩ (by omega) (th_167 (d := d - 1) (by omega) hIm3 (a0 := a0) (a1 := i2) (g0 := f12)  (F70 := m3 70) (F76 := m3 76) (F77 := m3 77) (F78 := m3 78) ef12 rfl rfl rfl rfl (by omega) (by omega) ) ?_
          rintro _ m13 ⟨rfl, hIm13, gm13, po0_m13⟩
          have hFm13 : zFr W_193 m0 m13 := hFm3.trans gm13 rfl
          have km13_69_23 : m13 69 23 = p4 := (gm13 69 23 rfl).trans km3_69_23
          have km13_70_823 : m13 70 823 = f12 := (gm13 70 823 rfl).trans ef12
          show zW E (d) 193 28 [(2, 69), (0, a0), (0, a1), (0, i2)] [] m13 Q
          refine zw_7 zr_193_28 rfl ?_
          refine zw_46r (s := 82) zr_193_29 rfl rfl rfl rfl ?_
          refine zw_7 zr_193_32 rfl ?_
          refine zw_46i zr_193_33 km13_69_23 rfl rfl rfl ?_
          refine zw_7 zr_193_36 rfl ?_
          refine zw_46r (s := 76) zr_193_37 rfl rfl rfl rfl ?_
          refine zw_3 zr_193_40 rfl ?_
          refine zw_48 (c := 76) (len := 10) zr_193_41 rfl rfl (by omega) (by omega) ?_
          intro x14 ex14
          have bx14 := hIm13.ra (c := 76) (len := 10) (k := (a1).toNat) rfl (by omega)
          rw [← ex14] at bx14
          clear ex14
          refine zw_49 (c := 82) (len := 100) zr_193_42 rfl rfl (by omega) (by omega) ?_
          intro m15 em15
          have hIm15 : zInv m15 := by rw [em15]; exact hIm13.any (by omega) rfl (by decide) (by decide)
          have hFm15 : zFr W_193 m0 m15 := by rw [em15]; exact hFm13.any rfl
          have km15_69_23 : m15 69 23 = p4 := by rw [em15, zUp_ne (by omega)]; exact km13_69_23
          have km15_70_823 : m15 70 823 = f12 := by rw [em15, zUp_ne (by omega)]; exact km13_70_823
          clear em15
          refine zw_7 zr_193_43 rfl ?_
          refine zw_43 zr_193_44 rfl ?_
          refine zw_46i zr_193_45 km15_69_23 rfl rfl rfl ?_
          refine zw_push zr_193_48 ?_
          refine zw_16 zr_193_49 (by omega) ?_
          refine zw_47 (c := 69) zr_193_50 rfl ⟨rfl, by decide, rfl⟩ ?_
          intro m16 em16
          have hIm16 : zInv m16 := by rw [em16]; exact hIm15.bd (r := 69) (k := 23) (lo := 0) (hi := 100) rfl (by omega) (by decide) (by decide) (by decide)
          have hFm16 : zFr W_193 m0 m16 := by rw [em16]; exact hFm15.up rfl
          have km16_70_823 : m16 70 823 = f12 := by rw [em16, zUp_ne (by omega)]; exact km15_70_823
          have km16_69_23 : m16 69 23 = (p4 + 1) := by rw [em16]; exact zUp_eq _ _ _ _
          clear em16
          refine zw_15 (c := 1) (L' := [(2, 69), (0, a0), (0, a1), (0, (i2 + 1))]) zr_193_53 rfl (by decide) (by omega) rfl ?_
          refine zw_42 zr_193_56 ?_
          exact zw_less (L := [(2, 69), (0, a0), (0, a1), (0, (i2 + 1))]) ⟨Or.inr rfl, Or.inr rfl, Or.inr rfl, Or.inr rfl, trivial⟩ (ihlp7_5 ((i2 + 1)) ((p4 + 1)) m16 hIm16 hFm16  km16_69_23 (by omega) (by omega) (by omega) (by omega) (by omega) (by omega))
  exact lp7_5 _ (0) (0) m1 hIm1 hFm1  km1_69_23 (by omega) (by omega) (by omega) (by omega) (by omega) (Nat.lt_succ_self _)

abbrev W_194 : List (Nat × Nat) := [(69, 5), (69, 6), (69, 7), (69, 9), (69, 11), (69, 13), (69, 17), (69, 18), (69, 23), (69, 24), (73, 1000), (74, 1000), (75, 1000), (76, 1000), (77, 1000), (78, 1000), (82, 1000)]
set_option maxHeartbeats 8000000 in
theorem th_194 {E : zE} {d : Nat} {m0 : zM} {a0 : Int} {a1 : Int} {a2 : Int} (hd : 8 ≤ d) (hI0 : zInv m0) (ha0 : 0 ≤ a0 ∧ a0 ≤ 3) (ha1 : 0 ≤ a1 ∧ a1 ≤ 9) (ha2 : 1 ≤ a2 ∧ a2 ≤ 9) : zC E d 194 [(2, 69), (0, a0), (0, a1), (0, a2)] m0 (fun v m' => ∃ r : Int, v = (0, r) ∧ 0 ≤ r ∧ r ≤ 1 ∧ zInv m' ∧ zFr W_194 m0 m') := by
  have hF0 : zFr W_194 m0 m0 := zFr.rfl
  generalize hQ : (fun (v : zV) (m' : zM) => ∃ r : Int, v = (0, r) ∧ 0 ≤ r ∧ r ≤ 1 ∧ zInv m' ∧ zFr W_194 m0 m') = Q
  show zW E d 194 0 [(2, 69), (0, a0), (0, a1), (0, a2), (9, 0), (9, 0), (9, 0)] [] m0 Q
  refine zw_7 zr_194_0 rfl ?_
  refine zw_3 zr_194_1 rfl ?_
  refine zw_3 zr_194_2 rfl ?_
  refine zw_C zr_194_3 (Or.inl rfl) zm_193 rfl rfl ⟨Nat.le_of_ble_eq_true rfl, Nat.le_of_ble_eq_true rfl, Nat.le_of_ble_eq_true rfl, rfl, by decide⟩ (by omega) (th_193 (d := d - 1) (by omega) hI0 (a0 := a0) (a1 := a1)      (by omega) (by omega) ) ?_
  rintro _ m1 ⟨rfl, hIm1, gm1⟩
  have hFm1 : zFr W_194 m0 m1 := hF0.trans gm1 rfl
  show zW E (d) 194 6 [(2, 69), (0, a0), (0, a1), (0, a2), (9, 0), (9, 0), (9, 0)] [] m1 Q
  refine zw_push zr_194_6 ?_
  refine zw_10 (L' := [(2, 69), (0, a0), (0, a1), (0, a2), (0, 0), (9, 0), (9, 0)]) zr_194_7 (Nat.le_of_ble_eq_true rfl) rfl ?_
  have lp9_4 : ∀ (nlp9_4 : Nat) (i2 : Int) (m3 : zM), zInv m3 → zFr W_194 m0 m3 → 0 ≤ i2 → i2 ≤ 100 → (100 - i2).toNat < nlp9_4 → zW E (d) 194 9 [(2, 69), (0, a0), (0, a1), (0, a2), (0, i2), (9, 0), (9, 0)] [] m3 Q := by
    intro nlp9_4
    induction nlp9_4 with
    | zero =>
      intros
      exact absurd (by assumption : _ < 0) (Nat.not_lt_zero _)
    | succ nlp9_4 ihlp9_4 =>
      intro i2 m3 hIm3 hFm3 li2 ui2 hmlp9_4
      refine zw_4 zr_194_9 rfl ?_
      refine zw_3 zr_194_11 rfl ?_
      refine zw_16 zr_194_12 (by omega) ?_
      refine zw_7 zr_194_13 rfl ?_
      obtain ⟨f6, ef6⟩ : ∃ v, m3 69 23 = v := ⟨_, rfl⟩
      have bf6 := ib_69_23 hIm3
      rw [ef6] at bf6
      refine zw_46i zr_194_14 ef6 rfl rfl rfl ?_
      refine zw_41_2 zr_194_17 ?_ ?_
      · intro h7
        refine zw_7 zr_194_107 rfl ?_
        refine zw_46i zr_194_108 ef6 rfl rfl rfl ?_
        refine zw_3 zr_194_111 rfl ?_
        refine zw_41_0 zr_194_112 ?_ ?_
        · intro h8
          refine zw_push zr_194_119 ?_
          refine zw_R zr_194_120 (by decide) zm_194 (v := (0, 0)) (zRetB (by omega)) ?_
          rw [← hQ]; exact ⟨_, rfl, by omega, by omega, hIm3, hFm3⟩
        · intro h9
          refine zw_push zr_194_115 ?_
          refine zw_42 zr_194_116 ?_
          refine zw_R zr_194_120 (by decide) zm_194 (v := (0, 1)) (zRetB (by omega)) ?_
          rw [← hQ]; exact ⟨_, rfl, by omega, by omega, hIm3, hFm3⟩
      · intro h10
        refine zw_7 zr_194_20 rfl ?_
        refine zw_46r (s := 82) zr_194_21 rfl rfl rfl rfl ?_
        refine zw_4 zr_194_24 rfl ?_
        refine zw_48 (c := 82) (len := 100) zr_194_26 rfl rfl (by omega) (by omega) ?_
        intro x11 ex11
        have bx11 := hIm3.ra (c := 82) (len := 100) (k := (i2).toNat) rfl (by omega)
        rw [← ex11] at bx11
        clear ex11
        refine zw_10 (L' := [(2, 69), (0, a0), (0, a1), (0, a2), (0, i2), (0, x11), (9, 0)]) zr_194_27 (Nat.le_of_ble_eq_true rfl) rfl ?_
        refine zw_4 zr_194_29 rfl ?_
        refine zw_10 (L' := [(2, 69), (0, a0), (0, a1), (0, a2), (0, i2), (0, x11), (0, i2)]) zr_194_31 (Nat.le_of_ble_eq_true rfl) rfl ?_
        have lp33_15 : ∀ (nlp33_15 : Nat) (i12 i13 : Int) (m14 : zM), zInv m14 → zFr W_194 m0 m14 → m14 69 23 = f6 → (-2147483648) ≤ i12 → i12 ≤ 2147483647 → 0 ≤ i13 → i13 ≤ 100 → (100 - i13).toNat < nlp33_15 → zW E (d) 194 33 [(2, 69), (0, a0), (0, a1), (0, a2), (0, i2), (0, i12), (0, i13)] [] m14 Q := by
          intro nlp33_15
          induction nlp33_15 with
          | zero =>
            intros
            exact absurd (by assumption : _ < 0) (Nat.not_lt_zero _)
          | succ nlp33_15 ihlp33_15 =>
            intro i12 i13 m14 hIm14 hFm14 km14_69_23 li12 ui12 li13 ui13 hmlp33_15
            refine zw_4 zr_194_33 rfl ?_
            refine zw_4 zr_194_35 rfl ?_
            refine zw_3 zr_194_37 rfl ?_
            refine zw_16 zr_194_38 (by omega) ?_
            refine zw_41_3 zr_194_39 ?_ ?_
            · intro h17
              refine zw_7 zr_194_74 rfl ?_
              refine zw_4 zr_194_75 rfl ?_
              refine zw_40_1 zr_194_77 ?_ ?_
              · intro h18
                refine zw_4 zr_194_89 rfl ?_
                refine zw_42 zr_194_91 ?_
                refine zw_47 (c := 69) zr_194_98 rfl ⟨rfl, by decide, rfl⟩ ?_
                intro m19 em19
                have hIm19 : zInv m19 := by rw [em19]; exact hIm14.any (by omega) rfl (by decide) (by decide)
                have hFm19 : zFr W_194 m0 m19 := by rw [em19]; exact hFm14.up rfl
                have km19_69_23 : m19 69 23 = f6 := by rw [em19, zUp_ne (by omega)]; exact km14_69_23
                have km19_69_24 : m19 69 24 = i12 := by rw [em19]; exact zUp_eq _ _ _ _
                clear em19
                refine zw_15 (c := 1) (L' := [(2, 69), (0, a0), (0, a1), (0, a2), (0, (i2 + 1)), (0, i12), (0, i13)]) zr_194_101 rfl (by decide) (by omega) rfl ?_
                refine zw_42 zr_194_104 ?_
                exact zw_less (L := [(2, 69), (0, a0), (0, a1), (0, a2), (0, (i2 + 1)), (9, 0), (9, 0)]) ⟨Or.inr rfl, Or.inr rfl, Or.inr rfl, Or.inr rfl, Or.inr rfl, Or.inl rfl, Or.inl rfl, trivial⟩ (ihlp9_4 ((i2 + 1)) m19 hIm19 hFm19   (by omega) (by omega)  (by omega))
              · intro h20
                refine zw_4 zr_194_80 rfl ?_
                refine zw_7 zr_194_82 rfl ?_
                obtain ⟨f21, ef21⟩ : ∃ v, m14 69 24 = v := ⟨_, rfl⟩
                have bf21 := hIm14.fi (c := 69) (k := 24) rfl
                rw [ef21] at bf21
                refine zw_46i zr_194_83 ef21 rfl rfl rfl ?_
                refine zw_41_5 zr_194_86 ?_ ?_
                · intro h22
                  refine zw_7 zr_194_94 rfl ?_
                  refine zw_46i zr_194_95 ef21 rfl rfl rfl ?_
                  refine zw_47 (c := 69) zr_194_98 rfl ⟨rfl, by decide, rfl⟩ ?_
                  intro m23 em23
                  have hIm23 : zInv m23 := by rw [em23]; exact hIm14.any (by omega) rfl (by decide) (by decide)
                  have hFm23 : zFr W_194 m0 m23 := by rw [em23]; exact hFm14.up rfl
                  have km23_69_23 : m23 69 23 = f6 := by rw [em23, zUp_ne (by omega)]; exact km14_69_23
                  have km23_69_24 : m23 69 24 = f21 := by rw [em23]; exact zUp_eq _ _ _ _
                  clear em23
                  refine zw_15 (c := 1) (L' := [(2, 69), (0, a0), (0, a1), (0, a2), (0, (i2 + 1)), (0, i12), (0, i13)]) zr_194_101 rfl (by decide) (by omega) rfl ?_
                  refine zw_42 zr_194_104 ?_
                  exact zw_less (L := [(2, 69), (0, a0), (0, a1), (0, a2), (0, (i2 + 1)), (9, 0), (9, 0)]) ⟨Or.inr rfl, Or.inr rfl, Or.inr rfl, Or.inr rfl, Or.inr rfl, Or.inl rfl, Or.inl rfl, trivial⟩ (ihlp9_4 ((i2 + 1)) m23 hIm23 hFm23   (by omega) (by omega)  (by omega))
                · intro h24
                  refine zw_4 zr_194_89 rfl ?_
                  refine zw_42 zr_194_91 ?_
                  refine zw_47 (c := 69) zr_194_98 rfl ⟨rfl, by decide, rfl⟩ ?_
                  intro m25 em25
                  have hIm25 : zInv m25 := by rw [em25]; exact hIm14.any (by omega) rfl (by decide) (by decide)
                  have hFm25 : zFr W_194 m0 m25 := by rw [em25]; exact hFm14.up rfl
                  have km25_69_23 : m25 69 23 = f6 := by rw [em25, zUp_ne (by omega)]; exact km14_69_23
                  have km25_69_24 : m25 69 24 = i12 := by rw [em25]; exact zUp_eq _ _ _ _
                  clear em25
                  refine zw_15 (c := 1) (L' := [(2, 69), (0, a0), (0, a1), (0, a2), (0, (i2 + 1)), (0, i12), (0, i13)]) zr_194_101 rfl (by decide) (by omega) rfl ?_
                  refine zw_42 zr_194_104 ?_
                  exact zw_less (L := [(2, 69), (0, a0), (0, a1), (0, a2), (0, (i2 + 1)), (9, 0), (9, 0)]) ⟨Or.inr rfl, Or.inr rfl, Or.inr rfl, Or.inr rfl, Or.inr rfl, Or.inl rfl, Or.inl rfl, trivial⟩ (ihlp9_4 ((i2 + 1)) m25 hIm25 hFm25   (by omega) (by omega)  (by omega))
            · intro h26
              refine zw_7 zr_194_42 rfl ?_
              refine zw_46r (s := 82) zr_194_43 rfl rfl rfl rfl ?_
              refine zw_4 zr_194_46 rfl ?_
              refine zw_48 (c := 82) (len := 100) zr_194_48 rfl rfl (by omega) (by omega) ?_
              intro x27 ex27
              have bx27 := hIm14.ra (c := 82) (len := 100) (k := (i13).toNat) rfl (by omega)
              rw [← ex27] at bx27
              refine zw_4 zr_194_49 rfl ?_
              refine zw_41_3 zr_194_51 ?_ ?_
              · intro h28
                refine zw_4 zr_194_64 rfl ?_
                refine zw_10 (L' := [(2, 69), (0, a0), (0, a1), (0, a2), (0, i2), (0, i12), (0, i13)]) zr_194_66 (Nat.le_of_ble_eq_true rfl) rfl ?_
                refine zw_15 (c := 1) (L' := [(2, 69), (0, a0), (0, a1), (0, a2), (0, i2), (0, i12), (0, (i13 + 1))]) zr_194_68 rfl (by decide) (by omega) rfl ?_
                refine zw_42 zr_194_71 ?_
                exact zw_less (L := [(2, 69), (0, a0), (0, a1), (0, a2), (0, i2), (0, i12), (0, (i13 + 1))]) ⟨Or.inr rfl, Or.inr rfl, Or.inr rfl, Or.inr rfl, Or.inr rfl, Or.inr rfl, Or.inr rfl, trivial⟩ (ihlp33_15 (i12) ((i13 + 1)) m14 hIm14 hFm14  km14_69_23 (by omega) (by omega) (by omega) (by omega)  (by omega))
              · intro h29
                refine zw_7 zr_194_54 rfl ?_
                refine zw_46r (s := 82) zr_194_55 rfl rfl rfl rfl ?_
                refine zw_4 zr_194_58 rfl ?_
                refine zw_48k (c := 82) (len := 100) zr_194_60 rfl rfl (by omega) (by omega) rfl ex27.symm ?_
                refine zw_42 zr_194_61 ?_
                refine zw_10 (L' := [(2, 69), (0, a0), (0, a1), (0, a2), (0, i2), (0, x27), (0, i13)]) zr_194_66 (Nat.le_of_ble_eq_true rfl) rfl ?_
                refine zw_15 (c := 1) (L' := [(2, 69), (0, a0), (0, a1), (0, a2), (0, i2), (0, x27), (0, (i13 + 1))]) zr_194_68 rfl (by decide) (by omega) rfl ?_
                refine zw_42 zr_194_71 ?_
                exact zw_less (L := [(2, 69), (0, a0), (0, a1), (0, a2), (0, i2), (0, x27), (0, (i13 + 1))]) ⟨Or.inr rfl, Or.inr rfl, Or.inr rfl, Or.inr rfl, Or.inr rfl, Or.inr rfl, Or.inr rfl, trivial⟩ (ihlp33_15 (x27) ((i13 + 1)) m14 hIm14 hFm14  km14_69_23 (by omega) (by omega) (by omega) (by omega)  (by omega))
        exact lp33_15 _ (x11) (i2) m3 hIm3 hFm3  ef6 (by omega) (by omega) (by omega) (by omega)  (Nat.lt_succ_self _)
  exact lp9_4 _ (0) m1 hIm1 hFm1   (by omega) (by omega)  (Nat.lt_succ_self _)

abbrev W_195 : List (Nat × Nat) := [(69, 3), (69, 4), (69, 5), (69, 6), (69, 7), (69, 9), (69, 11), (69, 13), (69, 17), (69, 18), (73, 1000), (74, 1000), (75, 1000), (76, 1000), (77, 1000), (78, 1000)]
set_option maxHeartbeats 8000000 in
theorem th_195 {E : zE} {d : Nat} {m0 : zM} {a0 : Int} {F70 : Nat → Int} (hd : 7 ≤ d) (hI0 : zInv m0) (hG70 : m0 70 = F70) (ha0 : 0 ≤ a0 ∧ a0 ≤ 3) : zC E d 195 [(2, 69), (0, a0)] m0 (fun v m' => ∃ r : Int, v = (0, r) ∧ (-1) ≤ r ∧ r ≤ 9 ∧ zInv m' ∧ zFr W_195 m0 m') := by
  have hF0 : zFr W_195 m0 m0 := zFr.rfl
  generalize hQ : (fun (v : zV) (m' : zM) => ∃ r : Int, v = (0, r) ∧ (-1) ≤ r ∧ r ≤ 9 ∧ zInv m' ∧ zFr W_195 m0 m') = Q
  show zW E d 195 0 [(2, 69), (0, a0), (9, 0), (9, 0), (9, 0), (9, 0), (9, 0), (9, 0), (9, 0), (9, 0), (9, 0), (9, 0), (9, 0), (9, 0), (9, 0)] [] m0 Q
  refine zw_push zr_195_0 ?_
  refine zw_9 (L' := [(2, 69), (0, a0), (0, (-1)), (9, 0), (9, 0), (9, 0), (9, 0), (9, 0), (9, 0), (9, 0), (9, 0), (9, 0), (9, 0), (9, 0), (9, 0)]) zr_195_1 (Nat.le_of_ble_eq_true rfl) rfl ?_
  refine zw_push zr_195_2 ?_
  refine zw_13 (L' := [(2, 69), (0, a0), (0, (-1)), (1, 0), (9, 0), (9, 0), (9, 0), (9, 0), (9, 0), (9, 0), (9, 0), (9, 0), (9, 0), (9, 0), (9, 0)]) zr_195_3 (Nat.le_of_ble_eq_true rfl) rfl ?_
  refine zw_push zr_195_4 ?_
  refine zw_14 (L' := [(2, 69), (0, a0), (0, (-1)), (1, 0), (9, 0), (1, 1), (9, 0), (9, 0), (9, 0), (9, 0), (9, 0), (9, 0), (9, 0), (9, 0), (9, 0)]) zr_195_5 (Nat.le_of_ble_eq_true rfl) rfl ?_
  refine zw_push zr_195_7 ?_
  refine zw_10 (L' := [(2, 69), (0, a0), (0, (-1)), (1, 0), (9, 0), (1, 1), (9, 0), (0, 0), (9, 0), (9, 0), (9, 0), (9, 0), (9, 0), (9, 0), (9, 0)]) zr_195_8 (Nat.le_of_ble_eq_true rfl) rfl ?_
  have lp10_6 : ∀ (nlp10_6 : Nat) (i1 i2 i3 i4 : Int) (m5 : zM), zInv m5 → zFr W_195 m0 m5 → m5 70 = F70 → (-1) ≤ i1 → i1 ≤ 9 → (-9223372036854775808) ≤ i2 → i2 ≤ 9223372036854775807 → 1 ≤ i3 → i3 ≤ 10 → 0 ≤ i4 → i4 ≤ 10 → (10 - i4).toNat < nlp10_6 → zW E (d) 195 10 [(2, 69), (0, a0), (0, i1), (1, i2), (9, 0), (1, i3), (9, 0), (0, i4), (9, 0), (9, 0), (9, 0), (9, 0), (9, 0), (9, 0), (9, 0)] [] m5 Q := by
    intro nlp10_6
    induction nlp10_6 with
    | zero =>
      intros
      exact absurd (by assumption : _ < 0) (Nat.not_lt_zero _)
    | succ nlp10_6 ihlp10_6 =>
      intro i1 i2 i3 i4 m5 hIm5 hFm5 fm5_70 li1 ui1 li2 ui2 li3 ui3 li4 ui4 hmlp10_6
      refine zw_4 zr_195_10 rfl ?_
      refine zw_7 zr_195_12 rfl ?_
      refine zw_C zr_195_13 (Or.inl rfl) zm_141 rfl rfl ⟨Nat.le_of_ble_eq_true rfl, Nat.le_of_ble_eq_true rfl, Nat.le_of_ble_eq_true rfl, rfl, by decide⟩ (by omega) (P := (fun v m' => zW E (d) 195 16 [(2, 69), (0, a0), (0, i1), (1, i2), (9, 0), (1, i3), (9, 0), (0, i4), (9, 0), (9, 0), (9, 0), (9, 0), (9, 0), (9, 0), (9, 0)] (if v.1 = 9 then [(0, i4)] else v :: [(0, i4)]) m' Q)) ?_ (fun _ _ h => h)
      generalize hQ1 : (fun v m' => zW E (d) 195 16 [(2, 69), (0, a0), (0, i1), (1, i2), (9, 0), (1, i3), (9, 0), (0, i4), (9, 0), (9, 0), (9, 0), (9, 0), (9, 0), (9, 0), (9, 0)] (if v.1 = 9 then [(0, i4)] else v :: [(0, i4)]) m' Q) = Q1
      show zW E (d - 1) 141 0 [(2, 69)] [] m5 Q1
      refine zw_7 zr_141_0 rfl ?_
      refine zw_46r (s := 70) zr_141_1 rfl rfl rfl rfl ?_
      refine zw_push zr_141_4 ?_
      obtain ⟨f8, ef8⟩ : ∃ v, m5 70 822 = v := ⟨_, rfl⟩
      have bf8 : 0 ≤ m5 70 822 ∧ m5 70 822 ≤ 10 := ib_70_players hIm5 (by omega)
      rw [ef8] at bf8
      refine zw_48k (c := 70) (len := 826) zr_141_7 rfl rfl (by omega) (by omega) (show (822 : Int).toNat = 822 by omega) ef8 ?_
      refine zw_R zr_141_8 (by decide) zm_141 (v := (0, f8)) rfl ?_
      rw [← hQ1]
      show zW E (d) 195 16 [(2, 69), (0, a0), (0, i1), (1, i2), (9, 0), (1, i3), (9, 0), (0, i4), (9, 0), (9, 0), (9, 0), (9, 0), (9, 0), (9, 0), (9, 0)] [(0, f8), (0, i4)] m5 Q
      refine zw_41_3 zr_195_16 ?_ ?_
      · intro h9
        refine zw_3 zr_195_157 rfl ?_
        refine zw_push zr_195_158 ?_
        refine zw_41_1 zr_195_159 ?_ ?_
        · intro h10
          refine zw_3 zr_195_169 rfl ?_
          refine zw_R zr_195_170 (by decide) zm_195 (v := (0, i1)) rfl ?_
          rw [← hQ]; exact ⟨_, rfl, by omega, by omega, hIm5, hFm5⟩
        · intro h11
          refine zw_7 zr_195_162 rfl ?_
          refine zw_5 zr_195_163 rfl ?_
          refine zw_6 zr_195_164 rfl ?_
          refine zw_C zr_195_166 (Or.inl rfl) zm_173 rfl rfl ⟨Nat.le_of_ble_eq_true rfl, Nat.le_of_ble_eq_true rfl, Nat.le_of_ble_eq_true rfl, rfl, by decide⟩ (by omega) (th_173 (d := d - 1) (by omega) hIm5 (a0 := i2) (a1 := i3)      (by omega) (by omega) ) ?_
          rintro _ m12 ⟨rfl, hIm12, gm12⟩
          have hFm12 : zFr W_195 m0 m12 := hFm5.trans gm12 rfl
          have km12_70_822 : m12 70 822 = f8 := (gm12 70 822 rfl).trans ef8
          have fm12_70 : m12 70 = F70 := (funext fun k => gm12 70 k rfl).trans fm5_70
          show zW E (d) 195 169 [(2, 69), (0, a0), (0, i1), (1, i2), (9, 0), (1, i3), (9, 0), (0, i4), (9, 0), (9, 0), (9, 0), (9, 0), (9, 0), (9, 0), (9, 0)] [] m12 Q
          refine zw_3 zr_195_169 rfl ?_
          refine zw_R zr_195_170 (by decide) zm_195 (v := (0, i1)) rfl ?_
          rw [← hQ]; exact ⟨_, rfl, by omega, by omega, hIm12, hFm12⟩
      · intro h13
        refine zw_push zr_195_19 ?_
        refine zw_10 (L' := [(2, 69), (0, a0), (0, i1), (1, i2), (9, 0), (1, i3), (9, 0), (0, i4), (0, 0), (9, 0), (9, 0), (9, 0), (9, 0), (9, 0), (9, 0)]) zr_195_20 (Nat.le_of_ble_eq_true rfl) rfl ?_
        have lp22_19 : ∀ (nlp22_19 : Nat) (i14 i15 i16 i17 : Int) (m18 : zM), zInv m18 → zFr W_195 m0 m18 → m18 70 822 = f8 → m18 70 = F70 → (-1) ≤ i14 → i14 ≤ 9 → (-9223372036854775808) ≤ i15 → i15 ≤ 9223372036854775807 → 1 ≤ i16 → i16 ≤ 10 → 0 ≤ i17 → i17 ≤ 100 → (100 - i17).toNat < nlp22_19 → zW E (d) 195 22 [(2, 69), (0, a0), (0, i14), (1, i15), (9, 0), (1, i16), (9, 0), (0, i4), (0, i17), (9, 0), (9, 0), (9, 0), (9, 0), (9, 0), (9, 0)] [] m18 Q := by
          intro nlp22_19
          induction nlp22_19 with
          | zero =>
            intros
            exact absurd (by assumption : _ < 0) (Nat.not_lt_zero _)
          | succ nlp22_19 ihlp22_19 =>
            intro i14 i15 i16 i17 m18 hIm18 hFm18 km18_70_822 fm18_70 li14 ui14 li15 ui15 li16 ui16 li17 ui17 hmlp22_19
            refine zw_4 zr_195_22 rfl ?_
            refine zw_push zr_195_24 ?_
            refine zw_41_3 zr_195_26 ?_ ?_
            · intro h21
              refine zw_15 (c := 1) (L' := [(2, 69), (0, a0), (0, i14), (1, i15), (9, 0), (1, i16), (9, 0), (0, (i4 + 1)), (0, i17), (9, 0), (9, 0), (9, 0), (9, 0), (9, 0), (9, 0)]) zr_195_151 rfl (by decide) (by omega) rfl ?_
              refine zw_42 zr_195_154 ?_
              exact zw_less (L := [(2, 69), (0, a0), (0, i14), (1, i15), (9, 0), (1, i16), (9, 0), (0, (i4 + 1)), (9, 0), (9, 0), (9, 0), (9, 0), (9, 0), (9, 0), (9, 0)]) ⟨Or.inr rfl, Or.inr rfl, Or.inr rfl, Or.inr rfl, Or.inl rfl, Or.inr rfl, Or.inl rfl, Or.inr rfl, Or.inl rfl, Or.inl rfl, Or.inl rfl, Or.inl rfl, Or.inl rfl, Or.inl rfl, Or.inl rfl, trivial⟩ (ihlp10_6 (i14) (i15) (i16) ((i4 + 1)) m18 hIm18 hFm18   fm18_70 (by omega) (by omega) (by omega) (by omega) (by omega) (by omega) (by omega) (by omega)  (by omega))
            · intro h22
              refine zw_7 zr_195_29 rfl ?_
              refine zw_4 zr_195_30 rfl ?_
              refine zw_4 zr_195_32 rfl ?_
              refine zw_C zr_195_34 (Or.inl rfl) zm_172 rfl rfl ⟨Nat.le_of_ble_eq_true rfl, Nat.le_of_ble_eq_true rfl, Nat.le_of_ble_eq_true rfl, rfl, by decide⟩ (by omega) (th_172 (d := d - 1) (by omega) hIm18 (a0 := i4) (a1 := i17)   (F70 := F70)  fm18_70 (by omega) (by omega) ) ?_
              rintro _ _ ⟨r23, rfl, hr23a, hr23b, rfl, po0_r23⟩
              show zW E (d) 195 37 [(2, 69), (0, a0), (0, i14), (1, i15), (9, 0), (1, i16), (9, 0), (0, i4), (0, i17), (9, 0), (9, 0), (9, 0), (9, 0), (9, 0), (9, 0)] [(0, r23)] m18 Q
              refine zw_40_1 zr_195_37 ?_ ?_
              · intro h24
                refine zw_15 (c := 1) (L' := [(2, 69), (0, a0), (0, i14), (1, i15), (9, 0), (1, i16), (9, 0), (0, i4), (0, (i17 + 1)), (9, 0), (9, 0), (9, 0), (9, 0), (9, 0), (9, 0)]) zr_195_145 rfl (by decide) (by omega) rfl ?_
                refine zw_42 zr_195_148 ?_
                exact zw_less (L := [(2, 69), (0, a0), (0, i14), (1, i15), (9, 0), (1, i16), (9, 0), (0, i4), (0, (i17 + 1)), (9, 0), (9, 0), (9, 0), (9, 0), (9, 0), (9, 0)]) ⟨Or.inr rfl, Or.inr rfl, Or.inr rfl, Or.inr rfl, Or.inl rfl, Or.inr rfl, Or.inl rfl, Or.inr rfl, Or.inr rfl, Or.inl rfl, Or.inl rfl, Or.inl rfl, Or.inl rfl, Or.inl rfl, Or.inl rfl, trivial⟩ (ihlp22_19 (i14) (i15) (i16) ((i17 + 1)) m18 hIm18 hFm18  km18_70_822 fm18_70 (by omega) (by omega) (by omega) (by omega) (by omega) (by omega) (by omega) (by omega)  (by omega))
              · intro h25
                refine zw_7 zr_195_40 rfl ?_
                refine zw_3 zr_195_41 rfl ?_
                refine zw_4 zr_195_42 rfl ?_
                obtain ⟨f26, ef26⟩ : ∃ v, m18 70 823 = v := ⟨_, rfl⟩
                have bf26 : 0 ≤ m18 70 823 ∧ m18 70 823 ≤ 60 := ib_70_meetings hIm18 (by omega)
                rw [ef26] at bf26
                refine zw_C zr_195_44 (Or.inl rfl) zm_167 rfl rfl ⟨Nat.le_of_ble_eq_true rfl, Nat.le_of_ble_eq_true rfl, Nat.le_of_ble_eq_true rfl, rfl, by decide⟩ (by omega) (th_167 (d := d - 1) (by omega) hIm18 (a0 := a0) (a1 := i17) (g0 := f26)  (F70 := F70) (F76 := m18 76) (F77 := m18 77) (F78 := m18 78) ef26 fm18_70 rfl rfl rfl (by omega) (by omega) ) ?_
                rintro _ m27 ⟨rfl, hIm27, gm27, po0_m27⟩
                have hFm27 : zFr W_195 m0 m27 := hFm18.trans gm27 rfl
                have km27_70_822 : m27 70 822 = f8 := (gm27 70 822 rfl).trans km18_70_822
                have km27_70_823 : m27 70 823 = f26 := (gm27 70 823 rfl).trans ef26
                have fm27_70 : m27 70 = F70 := (funext fun k => gm27 70 k rfl).trans fm18_70
                show zW E (d) 195 47 [(2, 69), (0, a0), (0, i14), (1, i15), (9, 0), (1, i16), (9, 0), (0, i4), (0, i17), (9, 0), (9, 0), (9, 0), (9, 0), (9, 0), (9, 0)] [] m27 Q
                refine zw_push zr_195_47 ?_
                refine zw_14 (L' := [(2, 69), (0, a0), (0, i14), (1, i15), (9, 0), (1, i16), (9, 0), (0, i4), (0, i17), (1, 0), (9, 0), (9, 0), (9, 0), (9, 0), (9, 0)]) zr_195_48 (Nat.le_of_ble_eq_true rfl) rfl ?_
                refine zw_push zr_195_50 ?_
                refine zw_14 (L' := [(2, 69), (0, a0), (0, i14), (1, i15), (9, 0), (1, i16), (9, 0), (0, i4), (0, i17), (1, 0), (9, 0), (1, 0), (9, 0), (9, 0), (9, 0)]) zr_195_51 (Nat.le_of_ble_eq_true rfl) rfl ?_
                refine zw_push zr_195_53 ?_
                refine zw_10 (L' := [(2, 69), (0, a0), (0, i14), (1, i15), (9, 0), (1, i16), (9, 0), (0, i4), (0, i17), (1, 0), (9, 0), (1, 0), (9, 0), (0, 0), (9, 0)]) zr_195_54 (Nat.le_of_ble_eq_true rfl) rfl ?_
                have lp56_31 : ∀ (nlp56_31 : Nat) (i28 i29 i30 : Int), (-9223372036854775808) ≤ i28 → i28 ≤ 9223372036854775807 → 0 ≤ i29 → i29 ≤ 10 → 0 ≤ i30 → i30 ≤ 10 → (i29 ≤ i30) → (i30 ≤ i4 ∨ 1 ≤ i29) → (10 - i30).toNat < nlp56_31 → zW E (d) 195 56 [(2, 69), (0, a0), (0, i14), (1, i15), (9, 0), (1, i16), (9, 0), (0, i4), (0, i17), (1, i28), (9, 0), (1, i29), (9, 0), (0, i30), (9, 0)] [] m27 Q := by
                  intro nlp56_31
                  induction nlp56_31 with
                  | zero =>
                    intros
                    exact absurd (by assumption : _ < 0) (Nat.not_lt_zero _)
                  | succ nlp56_31 ihlp56_31 =>
                    intro i28 i29 i30 li28 ui28 li29 ui29 li30 ui30 hv0lp56_31 hv1lp56_31 hmlp56_31
                    refine zw_4 zr_195_56 rfl ?_
                    refine zw_7 zr_195_58 rfl ?_
                    refine zw_C zr_195_59 (Or.inl rfl) zm_141 rfl rfl ⟨Nat.le_of_ble_eq_true rfl, Nat.le_of_ble_eq_true rfl, Nat.le_of_ble_eq_true rfl, rfl, by decide⟩ (by omega) (P := (fun v m' => zW E (d) 195 62 [(2, 69), (0, a0), (0, i14), (1, i15), (9, 0), (1, i16), (9, 0), (0, i4), (0, i17), (1, i28), (9, 0), (1, i29), (9, 0), (0, i30), (9, 0)] (if v.1 = 9 then [(0, i30)] else v :: [(0, i30)]) m' Q)) ?_ (fun _ _ h => h)
                    generalize hQ1 : (fun v m' => zW E (d) 195 62 [(2, 69), (0, a0), (0, i14), (1, i15), (9, 0), (1, i16), (9, 0), (0, i4), (0, i17), (1, i28), (9, 0), (1, i29), (9, 0), (0, i30), (9, 0)] (if v.1 = 9 then [(0, i30)] else v :: [(0, i30)]) m' Q) = Q1
                    show zW E (d - 1) 141 0 [(2, 69)] [] m27 Q1
                    refine zw_7 zr_141_0 rfl ?_
                    refine zw_46r (s := 70) zr_141_1 rfl rfl rfl rfl ?_
                    refine zw_push zr_141_4 ?_
                    refine zw_48k (c := 70) (len := 826) zr_141_7 rfl rfl (by omega) (by omega) (show (822 : Int).toNat = 822 by omega) km27_70_822 ?_
                    refine zw_R zr_141_8 (by decide) zm_141 (v := (0, f8)) rfl ?_
                    rw [← hQ1]
                    show zW E (d) 195 62 [(2, 69), (0, a0), (0, i14), (1, i15), (9, 0), (1, i16), (9, 0), (0, i4), (0, i17), (1, i28), (9, 0), (1, i29), (9, 0), (0, i30), (9, 0)] [(0, f8), (0, i30)] m27 Q
                    refine zw_41_3 zr_195_62 ?_ ?_
                    · intro h33
                      refine zw_6 zr_195_101 rfl ?_
                      refine zw_7 zr_195_103 rfl ?_
                      refine zw_46r (s := 76) zr_195_104 rfl rfl rfl rfl ?_
                      refine zw_4 zr_195_107 rfl ?_
                      refine zw_48 (c := 76) (len := 10) zr_195_109 rfl rfl (by omega) (by omega) ?_
                      intro x34 ex34
                      have bx34 := hIm27.ra (c := 76) (len := 10) (k := (i4).toNat) rfl (by omega)
                      rw [← ex34] at bx34
                      clear ex34
                      refine zw_36 zr_195_110 ?_
                      refine zw_29h zr_195_111 ?_
                      intro x35 hx35a hx35b
                      refine zw_6 zr_195_112 rfl ?_
                      refine zw_28h zr_195_114 ?_
                      intro x36 hx36a hx36b
                      refine zw_14 (L' := [(2, 69), (0, a0), (0, i14), (1, i15), (9, 0), (1, i16), (9, 0), (0, i4), (0, i17), (1, i28), (9, 0), (1, i29), (9, 0), (1, x36), (9, 0)]) zr_195_115 (Nat.le_of_ble_eq_true rfl) rfl ?_
                      refine zw_3 zr_195_117 rfl ?_
                      refine zw_push zr_195_118 ?_
                      refine zw_41_1 zr_195_119 ?_ ?_
                      · intro h37
                        refine zw_4 zr_195_135 rfl ?_
                        refine zw_9 (L' := [(2, 69), (0, a0), (0, i4), (1, i15), (9, 0), (1, i16), (9, 0), (0, i4), (0, i17), (1, i28), (9, 0), (1, i29), (9, 0), (1, x36), (9, 0)]) zr_195_137 (Nat.le_of_ble_eq_true rfl) rfl ?_
                        refine zw_6 zr_195_138 rfl ?_
                        refine zw_13 (L' := [(2, 69), (0, a0), (0, i4), (1, x36), (9, 0), (1, i16), (9, 0), (0, i4), (0, i17), (1, i28), (9, 0), (1, i29), (9, 0), (1, x36), (9, 0)]) zr_195_140 (Nat.le_of_ble_eq_true rfl) rfl ?_
                        refine zw_6 zr_195_141 rfl ?_
                        refine zw_14 (L' := [(2, 69), (0, a0), (0, i4), (1, x36), (9, 0), (1, i29), (9, 0), (0, i4), (0, i17), (1, i28), (9, 0), (1, i29), (9, 0), (1, x36), (9, 0)]) zr_195_143 (Nat.le_of_ble_eq_true rfl) rfl ?_
                        refine zw_15 (c := 1) (L' := [(2, 69), (0, a0), (0, i4), (1, x36), (9, 0), (1, i29), (9, 0), (0, i4), (0, (i17 + 1)), (1, i28), (9, 0), (1, i29), (9, 0), (1, x36), (9, 0)]) zr_195_145 rfl (by decide) (by omega) rfl ?_
                        refine zw_42 zr_195_148 ?_
                        exact zw_less (L := [(2, 69), (0, a0), (0, i4), (1, x36), (9, 0), (1, i29), (9, 0), (0, i4), (0, (i17 + 1)), (9, 0), (9, 0), (9, 0), (9, 0), (9, 0), (9, 0)]) ⟨Or.inr rfl, Or.inr rfl, Or.inr rfl, Or.inr rfl, Or.inl rfl, Or.inr rfl, Or.inl rfl, Or.inr rfl, Or.inr rfl, Or.inl rfl, Or.inl rfl, Or.inl rfl, Or.inl rfl, Or.inl rfl, Or.inl rfl, trivial⟩ (ihlp22_19 (i4) (x36) (i29) ((i17 + 1)) m27 hIm27 hFm27  km27_70_822 fm27_70 (by omega) (by omega) (by omega) (by omega) (by omega) (by omega) (by omega) (by omega)  (by omega))
                      · intro h38
                        refine zw_6 zr_195_122 rfl ?_
                        refine zw_6 zr_195_124 rfl ?_
                        refine zw_29h zr_195_126 ?_
                        intro x39 hx39a hx39b
                        refine zw_5 zr_195_127 rfl ?_
                        refine zw_6 zr_195_128 rfl ?_
                        refine zw_29h zr_195_130 ?_
                        intro x40 hx40a hx40b
                        refine zw_39_5 zr_195_131 zr_195_132 ?_ ?_
                        · intro h41
                          refine zw_15 (c := 1) (L' := [(2, 69), (0, a0), (0, i14), (1, i15), (9, 0), (1, i16), (9, 0), (0, i4), (0, (i17 + 1)), (1, i28), (9, 0), (1, i29), (9, 0), (1, x36), (9, 0)]) zr_195_145 rfl (by decide) (by omega) rfl ?_
                          refine zw_42 zr_195_148 ?_
                          exact zw_less (L := [(2, 69), (0, a0), (0, i14), (1, i15), (9, 0), (1, i16), (9, 0), (0, i4), (0, (i17 + 1)), (9, 0), (9, 0), (9, 0), (9, 0), (9, 0), (9, 0)]) ⟨Or.inr rfl, Or.inr rfl, Or.inr rfl, Or.inr rfl, Or.inl rfl, Or.inr rfl, Or.inl rfl, Or.inr rfl, Or.inr rfl, Or.inl rfl, Or.inl rfl, Or.inl rfl, Or.inl rfl, Or.inl rfl, Or.inl rfl, trivial⟩ (ihlp22_19 (i14) (i15) (i16) ((i17 + 1)) m27 hIm27 hFm27  km27_70_822 fm27_70 (by omega) (by omega) (by omega) (by omega) (by omega) (by omega) (by omega) (by omega)  (by omega))
                        · intro h42
                          refine zw_4 zr_195_135 rfl ?_
                          refine zw_9 (L' := [(2, 69), (0, a0), (0, i4), (1, i15), (9, 0), (1, i16), (9, 0), (0, i4), (0, i17), (1, i28), (9, 0), (1, i29), (9, 0), (1, x36), (9, 0)]) zr_195_137 (Nat.le_of_ble_eq_true rfl) rfl ?_
                          refine zw_6 zr_195_138 rfl ?_
                          refine zw_13 (L' := [(2, 69), (0, a0), (0, i4), (1, x36), (9, 0), (1, i16), (9, 0), (0, i4), (0, i17), (1, i28), (9, 0), (1, i29), (9, 0), (1, x36), (9, 0)]) zr_195_140 (Nat.le_of_ble_eq_true rfl) rfl ?_
                          refine zw_6 zr_195_141 rfl ?_
                          refine zw_14 (L' := [(2, 69), (0, a0), (0, i4), (1, x36), (9, 0), (1, i29), (9, 0), (0, i4), (0, i17), (1, i28), (9, 0), (1, i29), (9, 0), (1, x36), (9, 0)]) zr_195_143 (Nat.le_of_ble_eq_true rfl) rfl ?_
                          refine zw_15 (c := 1) (L' := [(2, 69), (0, a0), (0, i4), (1, x36), (9, 0), (1, i29), (9, 0), (0, i4), (0, (i17 + 1)), (1, i28), (9, 0), (1, i29), (9, 0), (1, x36), (9, 0)]) zr_195_145 rfl (by decide) (by omega) rfl ?_
                          refine zw_42 zr_195_148 ?_
                          exact zw_less (L := [(2, 69), (0, a0), (0, i4), (1, x36), (9, 0), (1, i29), (9, 0), (0, i4), (0, (i17 + 1)), (9, 0), (9, 0), (9, 0), (9, 0), (9, 0), (9, 0)]) ⟨Or.inr rfl, Or.inr rfl, Or.inr rfl, Or.inr rfl, Or.inl rfl, Or.inr rfl, Or.inl rfl, Or.inr rfl, Or.inr rfl, Or.inl rfl, Or.inl rfl, Or.inl rfl, Or.inl rfl, Or.inl rfl, Or.inl rfl, trivial⟩ (ihlp22_19 (i4) (x36) (i29) ((i17 + 1)) m27 hIm27 hFm27  km27_70_822 fm27_70 (by omega) (by omega) (by omega) (by omega) (by omega) (by omega) (by omega) (by omega)  (by omega))
                    · intro h43
                      refine zw_7 zr_195_65 rfl ?_
                      refine zw_4 zr_195_66 rfl ?_
                      refine zw_4 zr_195_68 rfl ?_
                      refine zw_C zr_195_70 (Or.inl rfl) zm_172 rfl rfl ⟨Nat.le_of_ble_eq_true rfl, Nat.le_of_ble_eq_true rfl, Nat.le_of_ble_eq_true rfl, rfl, by decide⟩ (by omega) (th_172 (d := d - 1) (by omega) hIm27 (a0 := i30) (a1 := i17)   (F70 := F70)  fm27_70 (by omega) (by omega) ) ?_
                      rintro _ _ ⟨r44, rfl, hr44a, hr44b, rfl, po0_r44⟩
                      show zW E (d) 195 73 [(2, 69), (0, a0), (0, i14), (1, i15), (9, 0), (1, i16), (9, 0), (0, i4), (0, i17), (1, i28), (9, 0), (1, i29), (9, 0), (0, i30), (9, 0)] [(0, r44)] m27 Q
                      have z45 := zcgh F70 (i30) (i4) (i17) (F70 823).toNat
                      refine zw_40_1 zr_195_73 ?_ ?_
                      · intro h46
                        refine zw_15 (c := 1) (L' := [(2, 69), (0, a0), (0, i14), (1, i15), (9, 0), (1, i16), (9, 0), (0, i4), (0, i17), (1, i28), (9, 0), (1, i29), (9, 0), (0, (i30 + 1)), (9, 0)]) zr_195_95 rfl (by decide) (by omega) rfl ?_
                        refine zw_42 zr_195_98 ?_
                        exact zw_less (L := [(2, 69), (0, a0), (0, i14), (1, i15), (9, 0), (1, i16), (9, 0), (0, i4), (0, i17), (1, i28), (9, 0), (1, i29), (9, 0), (0, (i30 + 1)), (9, 0)]) ⟨Or.inr rfl, Or.inr rfl, Or.inr rfl, Or.inr rfl, Or.inl rfl, Or.inr rfl, Or.inl rfl, Or.inr rfl, Or.inr rfl, Or.inr rfl, Or.inl rfl, Or.inr rfl, Or.inl rfl, Or.inr rfl, Or.inl rfl, trivial⟩ (ihlp56_31 (i28) (i29) ((i30 + 1))  (by omega) (by omega) (by omega) (by omega) (by omega) (by omega) (by omega) (by omega) (by omega))
                      · intro h47
                        refine zw_6 zr_195_76 rfl ?_
                        refine zw_7 zr_195_78 rfl ?_
                        refine zw_46r (s := 76) zr_195_79 rfl rfl rfl rfl ?_
                        refine zw_4 zr_195_82 rfl ?_
                        refine zw_48 (c := 76) (len := 10) zr_195_84 rfl rfl (by omega) (by omega) ?_
                        intro x48 ex48
                        have bx48 := hIm27.ra (c := 76) (len := 10) (k := (i30).toNat) rfl (by omega)
                        rw [← ex48] at bx48
                        clear ex48
                        refine zw_36 zr_195_85 ?_
                        refine zw_27h zr_195_86 ?_
                        intro x49 hx49a hx49b
                        refine zw_14 (L' := [(2, 69), (0, a0), (0, i14), (1, i15), (9, 0), (1, i16), (9, 0), (0, i4), (0, i17), (1, x49), (9, 0), (1, i29), (9, 0), (0, i30), (9, 0)]) zr_195_87 (Nat.le_of_ble_eq_true rfl) rfl ?_
                        refine zw_6 zr_195_89 rfl ?_
                        refine zw_push zr_195_91 ?_
                        refine zw_27 zr_195_92 (by omega) ?_
                        refine zw_14 (L' := [(2, 69), (0, a0), (0, i14), (1, i15), (9, 0), (1, i16), (9, 0), (0, i4), (0, i17), (1, x49), (9, 0), (1, (i29 + 1)), (9, 0), (0, i30), (9, 0)]) zr_195_93 (Nat.le_of_ble_eq_true rfl) rfl ?_
                        refine zw_15 (c := 1) (L' := [(2, 69), (0, a0), (0, i14), (1, i15), (9, 0), (1, i16), (9, 0), (0, i4), (0, i17), (1, x49), (9, 0), (1, (i29 + 1)), (9, 0), (0, (i30 + 1)), (9, 0)]) zr_195_95 rfl (by decide) (by omega) rfl ?_
                        refine zw_42 zr_195_98 ?_
                        exact zw_less (L := [(2, 69), (0, a0), (0, i14), (1, i15), (9, 0), (1, i16), (9, 0), (0, i4), (0, i17), (1, x49), (9, 0), (1, (i29 + 1)), (9, 0), (0, (i30 + 1)), (9, 0)]) ⟨Or.inr rfl, Or.inr rfl, Or.inr rfl, Or.inr rfl, Or.inl rfl, Or.inr rfl, Or.inl rfl, Or.inr rfl, Or.inr rfl, Or.inr rfl, Or.inl rfl, Or.inr rfl, Or.inl rfl, Or.inr rfl, Or.inl rfl, trivial⟩ (ihlp56_31 (x49) ((i29 + 1)) ((i30 + 1))  (by omega) (by omega) (by omega) (by omega) (by omega) (by omega) (by omega) (by omega) (by omega))
                exact lp56_31 _ (0) (0) (0)  (by omega) (by omega) (by omega) (by omega) (by omega) (by omega) (by omega) (by omega) (Nat.lt_succ_self _)
        exact lp22_19 _ (i1) (i2) (i3) (0) m5 hIm5 hFm5  ef8 fm5_70 (by omega) (by omega) (by omega) (by omega) (by omega) (by omega) (by omega) (by omega)  (Nat.lt_succ_self _)
  exact lp10_6 _ ((-1)) (0) (1) (0) m0 hI0 hF0  hG70 (by omega) (by omega) (by omega) (by omega) (by omega) (by omega) (by omega) (by omega)  (Nat.lt_succ_self _)
