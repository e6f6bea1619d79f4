set_option maxHeartbeats 8000000 in
theorem th_2 {E : zE} {d : Nat} {m0 : zM} {a0 : Int} {a1 : Int} {a2 : Int} {a3 : Int} (hd : 2 ≤ d) (hI0 : zInv m0) (ha0 : 1 ≤ a0 ∧ a0 ≤ 15) (ha1 : (-2147483648) ≤ a1 ∧ a1 ≤ 2147483647) (ha2 : 1 ≤ a2 ∧ a2 ≤ 2147483646) (ha3 : 2 ≤ a3 ∧ a3 ≤ 9) : zC E d 2 [(0, a0), (0, a1), (0, a2), (0, a3)] m0 (fun v m' => ∃ r : Int, v = (1, r) ∧ (-9223372036854775808) ≤ r ∧ r ≤ 9223372036854775807 ∧ m0 = m') := by
  generalize hQ : (fun (v : zV) (m' : zM) => ∃ r : Int, v = (1, r) ∧ (-9223372036854775808) ≤ r ∧ r ≤ 9223372036854775807 ∧ m0 = m') = Q
  show zW E d 2 0 [(0, a0), (0, a1), (0, a2), (0, a3), (9, 0), (9, 0), (9, 0), (9, 0), (9, 0)] [] m0 Q
  refine zw_push zr_2_0 ?_
  refine zw_14 (L' := [(0, a0), (0, a1), (0, a2), (0, a3), (1, 0), (9, 0), (9, 0), (9, 0), (9, 0)]) zr_2_1 (Nat.le_of_ble_eq_true rfl) rfl ?_
  refine zw_push zr_2_3 ?_
  refine zw_14 (L' := [(0, a0), (0, a1), (0, a2), (0, a3), (1, 0), (9, 0), (1, 1), (9, 0), (9, 0)]) zr_2_4 (Nat.le_of_ble_eq_true rfl) rfl ?_
  refine zw_push zr_2_6 ?_
  refine zw_10 (L' := [(0, a0), (0, a1), (0, a2), (0, a3), (1, 0), (9, 0), (1, 1), (9, 0), (0, 0)]) zr_2_7 (Nat.le_of_ble_eq_true rfl) rfl ?_
  have lp9_4 : ∀ (nlp9_4 : Nat) (i1 i2 i3 : Int), (-9223372036854775808) ≤ i1 → i1 ≤ 9223372036854775807 → (-9223372036854775808) ≤ i2 → i2 ≤ 9223372036854775807 → 0 ≤ i3 → i3 ≤ 16 → (16 - i3).toNat < nlp9_4 → zW E (d) 2 9 [(0, a0), (0, a1), (0, a2), (0, a3), (1, i1), (9, 0), (1, i2), (9, 0), (0, i3)] [] m0 Q := by
    intro nlp9_4
    induction nlp9_4 with
    | zero =>
      intros
      exact absurd (by assumption : _ < 0) (Nat.not_lt_zero _)
    | succ nlp9_4 ihlp9_4 =>
      intro i1 i2 i3 li1 ui1 li2 ui2 li3 ui3 hmlp9_4
      refine zw_4 zr_2_9 rfl ?_
      refine zw_3 zr_2_11 rfl ?_
      refine zw_41_2 zr_2_12 ?_ ?_
      · intro h6
        refine zw_6 zr_2_68 rfl ?_
        refine zw_R zr_2_70 (by decide) zm_2 (v := (1, i1)) rfl ?_
        rw [← hQ]; exact ⟨_, rfl, by omega, by omega, rfl⟩
      · intro h7
        refine zw_4 zr_2_15 rfl ?_
        refine zw_3 zr_2_17 rfl ?_
        refine zw_41_0 zr_2_18 ?_ ?_
        · intro h8
          refine zw_6 zr_2_46 rfl ?_
          refine zw_3 zr_2_48 rfl ?_
          refine zw_4 zr_2_49 rfl ?_
          refine zw_17 zr_2_51 (by omega) ?_
          refine zw_36 zr_2_52 ?_
          refine zw_29h zr_2_53 ?_
          intro x9 hx9a hx9b
          refine zw_4 zr_2_54 rfl ?_
          refine zw_push zr_2_56 ?_
          refine zw_16 zr_2_57 (by omega) ?_
          refine zw_36 zr_2_58 ?_
          refine zw_118h zr_2_59 (by omega) ?_
          intro x10 hx10a hx10b
          refine zw_14 (L' := [(0, a0), (0, a1), (0, a2), (0, a3), (1, i1), (9, 0), (1, x10), (9, 0), (0, i3)]) zr_2_60 (Nat.le_of_ble_eq_true rfl) rfl ?_
          refine zw_15 (c := 1) (L' := [(0, a0), (0, a1), (0, a2), (0, a3), (1, i1), (9, 0), (1, x10), (9, 0), (0, (i3 + 1))]) zr_2_62 rfl (by decide) (by omega) rfl ?_
          refine zw_42 zr_2_65 ?_
          exact zw_less (L := [(0, a0), (0, a1), (0, a2), (0, a3), (1, i1), (9, 0), (1, x10), (9, 0), (0, (i3 + 1))]) ⟨Or.inr rfl, Or.inr rfl, Or.inr rfl, Or.inr rfl, Or.inr rfl, Or.inl rfl, Or.inr rfl, Or.inl rfl, Or.inr rfl, trivial⟩ (ihlp9_4 (i1) (x10) ((i3 + 1))  (by omega) (by omega) (by omega) (by omega) (by omega) (by omega) (by omega))
        · intro h11
          refine zw_6 zr_2_21 rfl ?_
          refine zw_6 zr_2_23 rfl ?_
          refine zw_3 zr_2_25 rfl ?_
          refine zw_4 zr_2_26 rfl ?_
          refine zw_C zr_2_28 (Or.inr rfl) zm_1 rfl rfl ⟨Nat.le_of_ble_eq_true rfl, Nat.le_of_ble_eq_true rfl, Nat.le_of_ble_eq_true rfl, rfl, by decide⟩ (by omega) (th_1 (d := d - 1) (by omega) hI0 (a0 := a2) (a1 := i3)   (by omega) (by omega)) ?_
          rintro _ _ ⟨r12, rfl, hr12a, hr12b, rfl⟩
          show zW E (d) 2 31 [(0, a0), (0, a1), (0, a2), (0, a3), (1, i1), (9, 0), (1, i2), (9, 0), (0, i3)] [(1, r12), (1, i2), (1, i1)] m0 Q
          refine zw_29h zr_2_31 ?_
          intro x13 hx13a hx13b
          refine zw_3 zr_2_32 rfl ?_
          refine zw_3 zr_2_33 rfl ?_
          refine zw_17 zr_2_34 (by omega) ?_
          refine zw_3 zr_2_35 rfl ?_
          refine zw_4 zr_2_36 rfl ?_
          refine zw_17 zr_2_38 (by omega) ?_
          refine zw_C zr_2_39 (Or.inr rfl) zm_1 rfl rfl ⟨Nat.le_of_ble_eq_true rfl, Nat.le_of_ble_eq_true rfl, Nat.le_of_ble_eq_true rfl, rfl, by decide⟩ (by omega) (th_1 (d := d - 1) (by omega) hI0 (a0 := (a3 - a2)) (a1 := (a0 - i3))   (by omega) (by omega)) ?_
          rintro _ _ ⟨r14, rfl, hr14a, hr14b, rfl⟩
          show zW E (d) 2 42 [(0, a0), (0, a1), (0, a2), (0, a3), (1, i1), (9, 0), (1, i2), (9, 0), (0, i3)] [(1, r14), (1, x13), (1, i1)] m0 Q
          refine zw_29h zr_2_42 ?_
          intro x15 hx15a hx15b
          refine zw_27h zr_2_43 ?_
          intro x16 hx16a hx16b
          refine zw_14 (L' := [(0, a0), (0, a1), (0, a2), (0, a3), (1, x16), (9, 0), (1, i2), (9, 0), (0, i3)]) zr_2_44 (Nat.le_of_ble_eq_true rfl) rfl ?_
          refine zw_6 zr_2_46 rfl ?_
          refine zw_3 zr_2_48 rfl ?_
          refine zw_4 zr_2_49 rfl ?_
          refine zw_17 zr_2_51 (by omega) ?_
          refine zw_36 zr_2_52 ?_
          refine zw_29h zr_2_53 ?_
          intro x17 hx17a hx17b
          refine zw_4 zr_2_54 rfl ?_
          refine zw_push zr_2_56 ?_
          refine zw_16 zr_2_57 (by omega) ?_
          refine zw_36 zr_2_58 ?_
          refine zw_118h zr_2_59 (by omega) ?_
          intro x18 hx18a hx18b
          refine zw_14 (L' := [(0, a0), (0, a1), (0, a2), (0, a3), (1, x16), (9, 0), (1, x18), (9, 0), (0, i3)]) zr_2_60 (Nat.le_of_ble_eq_true rfl) rfl ?_
          refine zw_15 (c := 1) (L' := [(0, a0), (0, a1), (0, a2), (0, a3), (1, x16), (9, 0), (1, x18), (9, 0), (0, (i3 + 1))]) zr_2_62 rfl (by decide) (by omega) rfl ?_
          refine zw_42 zr_2_65 ?_
          exact zw_less (L := [(0, a0), (0, a1), (0, a2), (0, a3), (1, x16), (9, 0), (1, x18), (9, 0), (0, (i3 + 1))]) ⟨Or.inr rfl, Or.inr rfl, Or.inr rfl, Or.inr rfl, Or.inr rfl, Or.inl rfl, Or.inr rfl, Or.inl rfl, Or.inr rfl, trivial⟩ (ihlp9_4 (x16) (x18) ((i3 + 1))  (by omega) (by omega) (by omega) (by omega) (by omega) (by omega) (by omega))
  exact lp9_4 _ (0) (1) (0)  (by omega) (by omega) (by omega) (by omega) (by omega) (by omega) (Nat.lt_succ_self _)

abbrev W_126 : List (Nat × Nat) := [(42, 0), (42, 1)]
set_option maxHeartbeats 8000000 in
theorem th_126 {E : zE} {d : Nat} {m0 : zM} {a0 : Int} {a1 : Int} {a2 : Int} {a3 : Int} (hd : 3 ≤ d) (hI0 : zInv m0) (ha0 : (-2147483648) ≤ a0 ∧ a0 ≤ 2147483647) (ha1 : (-2147483648) ≤ a1 ∧ a1 ≤ 2147483647) (ha2 : (-2147483648) ≤ a2 ∧ a2 ≤ 2147483647) (ha3 : (-2147483648) ≤ a3 ∧ a3 ≤ 2147483647) : zC E d 126 [(2, 0), (0, a0), (0, a1), (0, a2), (0, a3)] m0 (fun v m' => ∃ r : Int, v = (0, r) ∧ (-3) ≤ r ∧ r ≤ 1 ∧ zInv m' ∧ zFr W_126 m0 m') := by
  have hF0 : zFr W_126 m0 m0 := zFr.rfl
  generalize hQ : (fun (v : zV) (m' : zM) => ∃ r : Int, v = (0, r) ∧ (-3) ≤ r ∧ r ≤ 1 ∧ zInv m' ∧ zFr W_126 m0 m') = Q
  show zW E d 126 0 [(2, 0), (0, a0), (0, a1), (0, a2), (0, a3), (9, 0)] [] m0 Q
  refine zw_7 zr_126_0 rfl ?_
  refine zw_46r (s := 1) zr_126_1 rfl rfl rfl rfl ?_
  refine zw_3 zr_126_4 rfl ?_
  refine zw_3 zr_126_5 rfl ?_
  refine zw_C zr_126_6 (Or.inl rfl) zm_50 rfl rfl ⟨Nat.le_of_ble_eq_true rfl, Nat.le_of_ble_eq_true rfl, Nat.le_of_ble_eq_true rfl, rfl, by decide⟩ (by omega) (P := (fun v m' => zW E (d) 126 9 [(2, 0), (0, a0), (0, a1), (0, a2), (0, a3), (9, 0)] (if v.1 = 9 then [] else v :: []) m' Q)) ?_ (fun _ _ h => h)
  generalize hQ1 : (fun v m' => zW E (d) 126 9 [(2, 0), (0, a0), (0, a1), (0, a2), (0, a3), (9, 0)] (if v.1 = 9 then [] else v :: []) m' Q) = Q1
  show zW E (d - 1) 50 0 [(2, 1), (0, a0), (0, a1)] [] m0 Q1
  refine zw_7 zr_50_0 rfl ?_
  refine zw_3 zr_50_1 rfl ?_
  refine zw_C zr_50_2 (Or.inl rfl) zm_49 rfl rfl ⟨Nat.le_of_ble_eq_true rfl, Nat.le_of_ble_eq_true rfl, Nat.le_of_ble_eq_true rfl, rfl, by decide⟩ (by omega) (P := (fun v m' => zW E (d - 1) 50 5 [(2, 1), (0, a0), (0, a1)] (if v.1 = 9 then [] else v :: []) m' Q1)) ?_ (fun _ _ h => h)
  generalize hQ2 : (fun v m' => zW E (d - 1) 50 5 [(2, 1), (0, a0), (0, a1)] (if v.1 = 9 then [] else v :: []) m' Q1) = Q2
  show zW E (d - 1 - 1) 49 0 [(2, 1), (0, a0)] [] m0 Q2
  refine zw_3 zr_49_0 rfl ?_
  refine zw_40_0 zr_49_1 ?_ ?_
  · intro h1
    refine zw_push zr_49_16 ?_
    refine zw_R zr_49_17 (by decide) zm_49 (v := (0, 0)) (zRetB (by omega)) ?_
    rw [← hQ2]
    show zW E (d - 1) 50 5 [(2, 1), (0, a0), (0, a1)] [(0, 0)] m0 Q1
    refine zw_40_1 zr_50_5 ?_ ?_
    · intro h2
      refine zw_push zr_50_25 ?_
      refine zw_R zr_50_26 (by decide) zm_50 (v := (0, 0)) (zRetB (by omega)) ?_
      rw [← hQ1]
      show zW E (d) 126 9 [(2, 0), (0, a0), (0, a1), (0, a2), (0, a3), (9, 0)] [(0, 0)] m0 Q
      refine zw_40_1 zr_126_9 ?_ ?_
      · intro h3
        refine zw_push zr_126_30 ?_
        refine zw_R zr_126_32 (by decide) zm_126 (v := (0, (-2))) rfl ?_
        rw [← hQ]; exact ⟨_, rfl, by omega, by omega, hI0, hF0⟩
      · intro h4; omega
    · intro h5; omega
  · intro h6
    refine zw_3 zr_49_4 rfl ?_
    refine zw_7 zr_49_5 rfl ?_
    obtain ⟨f7, ef7⟩ : ∃ v, m0 1 0 = v := ⟨_, rfl⟩
    have bf7 := ib_1_0 hI0
    rw [ef7] at bf7
    refine zw_46i zr_49_6 ef7 rfl rfl rfl ?_
    refine zw_41_3 zr_49_9 ?_ ?_
    · intro h8
      refine zw_push zr_49_16 ?_
      refine zw_R zr_49_17 (by decide) zm_49 (v := (0, 0)) (zRetB (by omega)) ?_
      rw [← hQ2]
      show zW E (d - 1) 50 5 [(2, 1), (0, a0), (0, a1)] [(0, 0)] m0 Q1
      refine zw_40_1 zr_50_5 ?_ ?_
      · intro h9
        refine zw_push zr_50_25 ?_
        refine zw_R zr_50_26 (by decide) zm_50 (v := (0, 0)) (zRetB (by omega)) ?_
        rw [← hQ1]
        show zW E (d) 126 9 [(2, 0), (0, a0), (0, a1), (0, a2), (0, a3), (9, 0)] [(0, 0)] m0 Q
        refine zw_40_1 zr_126_9 ?_ ?_
        · intro h10
          refine zw_push zr_126_30 ?_
          refine zw_R zr_126_32 (by decide) zm_126 (v := (0, (-2))) rfl ?_
          rw [← hQ]; exact ⟨_, rfl, by omega, by omega, hI0, hF0⟩
        · intro h11; omega
      · intro h12; omega
    · intro h13
      refine zw_push zr_49_12 ?_
      refine zw_42 zr_49_13 ?_
      refine zw_R zr_49_17 (by decide) zm_49 (v := (0, 1)) (zRetB (by omega)) ?_
      rw [← hQ2]
      show zW E (d - 1) 50 5 [(2, 1), (0, a0), (0, a1)] [(0, 1)] m0 Q1
      refine zw_40_1 zr_50_5 ?_ ?_
      · intro h14; omega
      · intro h15
        refine zw_7 zr_50_8 rfl ?_
        refine zw_3 zr_50_9 rfl ?_
        refine zw_C zr_50_10 (Or.inl rfl) zm_49 rfl rfl ⟨Nat.le_of_ble_eq_true rfl, Nat.le_of_ble_eq_true rfl, Nat.le_of_ble_eq_true rfl, rfl, by decide⟩ (by omega) (P := (fun v m' => zW E (d - 1) 50 13 [(2, 1), (0, a0), (0, a1)] (if v.1 = 9 then [] else v :: []) m' Q1)) ?_ (fun _ _ h => h)
        generalize hQ2 : (fun v m' => zW E (d - 1) 50 13 [(2, 1), (0, a0), (0, a1)] (if v.1 = 9 then [] else v :: []) m' Q1) = Q2
        show zW E (d - 1 - 1) 49 0 [(2, 1), (0, a1)] [] m0 Q2
        refine zw_3 zr_49_0 rfl ?_
        refine zw_40_0 zr_49_1 ?_ ?_
        · intro h16
          refine zw_push zr_49_16 ?_
          refine zw_R zr_49_17 (by decide) zm_49 (v := (0, 0)) (zRetB (by omega)) ?_
          rw [← hQ2]
          show zW E (d - 1) 50 13 [(2, 1), (0, a0), (0, a1)] [(0, 0)] m0 Q1
          refine zw_40_1 zr_50_13 ?_ ?_
          · intro h17
            refine zw_push zr_50_25 ?_
            refine zw_R zr_50_26 (by decide) zm_50 (v := (0, 0)) (zRetB (by omega)) ?_
            rw [← hQ1]
            show zW E (d) 126 9 [(2, 0), (0, a0), (0, a1), (0, a2), (0, a3), (9, 0)] [(0, 0)] m0 Q
            refine zw_40_1 zr_126_9 ?_ ?_
            · intro h18
              refine zw_push zr_126_30 ?_
              refine zw_R zr_126_32 (by decide) zm_126 (v := (0, (-2))) rfl ?_
              rw [← hQ]; exact ⟨_, rfl, by omega, by omega, hI0, hF0⟩
            · intro h19; omega
          · intro h20; omega
        · intro h21
          refine zw_3 zr_49_4 rfl ?_
          refine zw_7 zr_49_5 rfl ?_
          refine zw_46i zr_49_6 ef7 rfl rfl rfl ?_
          refine zw_41_3 zr_49_9 ?_ ?_
          · intro h22
            refine zw_push zr_49_16 ?_
            refine zw_R zr_49_17 (by decide) zm_49 (v := (0, 0)) (zRetB (by omega)) ?_
            rw [← hQ2]
            show zW E (d - 1) 50 13 [(2, 1), (0, a0), (0, a1)] [(0, 0)] m0 Q1
            refine zw_40_1 zr_50_13 ?_ ?_
            · intro h23
              refine zw_push zr_50_25 ?_
              refine zw_R zr_50_26 (by decide) zm_50 (v := (0, 0)) (zRetB (by omega)) ?_
              rw [← hQ1]
              show zW E (d) 126 9 [(2, 0), (0, a0), (0, a1), (0, a2), (0, a3), (9, 0)] [(0, 0)] m0 Q
              refine zw_40_1 zr_126_9 ?_ ?_
              · intro h24
                refine zw_push zr_126_30 ?_
                refine zw_R zr_126_32 (by decide) zm_126 (v := (0, (-2))) rfl ?_
                rw [← hQ]; exact ⟨_, rfl, by omega, by omega, hI0, hF0⟩
              · intro h25; omega
            · intro h26; omega
          · intro h27
            refine zw_push zr_49_12 ?_
            refine zw_42 zr_49_13 ?_
            refine zw_R zr_49_17 (by decide) zm_49 (v := (0, 1)) (zRetB (by omega)) ?_
            rw [← hQ2]
            show zW E (d - 1) 50 13 [(2, 1), (0, a0), (0, a1)] [(0, 1)] m0 Q1
            refine zw_40_1 zr_50_13 ?_ ?_
            · intro h28; omega
            · intro h29
              refine zw_3 zr_50_16 rfl ?_
              refine zw_3 zr_50_17 rfl ?_
              refine zw_41_1 zr_50_18 ?_ ?_
              · intro h30
                refine zw_push zr_50_25 ?_
                refine zw_R zr_50_26 (by decide) zm_50 (v := (0, 0)) (zRetB (by omega)) ?_
                rw [← hQ1]
                show zW E (d) 126 9 [(2, 0), (0, a0), (0, a1), (0, a2), (0, a3), (9, 0)] [(0, 0)] m0 Q
                refine zw_40_1 zr_126_9 ?_ ?_
                · intro h31
                  refine zw_push zr_126_30 ?_
                  refine zw_R zr_126_32 (by decide) zm_126 (v := (0, (-2))) rfl ?_
                  rw [← hQ]; exact ⟨_, rfl, by omega, by omega, hI0, hF0⟩
                · intro h32; omega
              · intro h33
                refine zw_push zr_50_21 ?_
                refine zw_42 zr_50_22 ?_
                refine zw_R zr_50_26 (by decide) zm_50 (v := (0, 1)) (zRetB (by omega)) ?_
                rw [← hQ1]
                show zW E (d) 126 9 [(2, 0), (0, a0), (0, a1), (0, a2), (0, a3), (9, 0)] [(0, 1)] m0 Q
                refine zw_40_1 zr_126_9 ?_ ?_
                · intro h34; omega
                · intro h35
                  refine zw_3 zr_126_12 rfl ?_
                  refine zw_push zr_126_13 ?_
                  refine zw_41_0 zr_126_14 ?_ ?_
                  · intro h36
                    refine zw_push zr_126_30 ?_
                    refine zw_R zr_126_32 (by decide) zm_126 (v := (0, (-2))) rfl ?_
                    rw [← hQ]; exact ⟨_, rfl, by omega, by omega, hI0, hF0⟩
                  · intro h37
                    refine zw_4 zr_126_17 rfl ?_
                    refine zw_3 zr_126_19 rfl ?_
                    refine zw_41_5 zr_126_20 ?_ ?_
                    · intro h38
                      refine zw_push zr_126_30 ?_
                      refine zw_R zr_126_32 (by decide) zm_126 (v := (0, (-2))) rfl ?_
                      rw [← hQ]; exact ⟨_, rfl, by omega, by omega, hI0, hF0⟩
                    · intro h39
                      refine zw_4 zr_126_23 rfl ?_
                      refine zw_push zr_126_25 ?_
                      refine zw_41_5 zr_126_27 ?_ ?_
                      · intro h40
                        refine zw_7 zr_126_33 rfl ?_
                        refine zw_46r (s := 1) zr_126_34 rfl rfl rfl rfl ?_
                        refine zw_3 zr_126_37 rfl ?_
                        refine zw_3 zr_126_38 rfl ?_
                        refine zw_C zr_126_39 (Or.inl rfl) zm_56 rfl rfl ⟨Nat.le_of_ble_eq_true rfl, Nat.le_of_ble_eq_true rfl, Nat.le_of_ble_eq_true rfl, rfl, by decide⟩ (by omega) (th_56 (d := d - 1) (by omega) hI0 (a0 := a0) (a1 := a1)   (by omega) (by omega)) ?_
                        rintro _ _ ⟨r41, rfl, hr41a, hr41b, rfl⟩
                        show zW E (d) 126 42 [(2, 0), (0, a0), (0, a1), (0, a2), (0, a3), (9, 0)] [(0, r41)] m0 Q
                        refine zw_10 (L' := [(2, 0), (0, a0), (0, a1), (0, a2), (0, a3), (0, r41)]) zr_126_42 (Nat.le_of_ble_eq_true rfl) rfl ?_
                        refine zw_4 zr_126_44 rfl ?_
                        refine zw_push zr_126_46 ?_
                        refine zw_push zr_126_47 ?_
                        refine zw_C zr_126_49 (Or.inr rfl) zm_100 rfl rfl ⟨Nat.le_of_ble_eq_true rfl, Nat.le_of_ble_eq_true rfl, Nat.le_of_ble_eq_true rfl, rfl, by decide⟩ (by omega) (P := (fun v m' => zW E (d) 126 52 [(2, 0), (0, a0), (0, a1), (0, a2), (0, a3), (0, r41)] (if v.1 = 9 then [] else v :: []) m' Q)) ?_ (fun _ _ h => h)
                        generalize hQ1 : (fun v m' => zW E (d) 126 52 [(2, 0), (0, a0), (0, a1), (0, a2), (0, a3), (0, r41)] (if v.1 = 9 then [] else v :: []) m' Q) = Q1
                        show zW E (d - 1) 100 0 [(0, r41), (0, 1), (0, 15)] [] m0 Q1
                        refine zw_3 zr_100_0 rfl ?_
                        refine zw_3 zr_100_1 rfl ?_
                        refine zw_41_0 zr_100_2 ?_ ?_
                        · intro h42
                          refine zw_push zr_100_14 ?_
                          refine zw_R zr_100_15 (by decide) zm_100 (v := (0, 0)) (zRetB (by omega)) ?_
                          rw [← hQ1]
                          show zW E (d) 126 52 [(2, 0), (0, a0), (0, a1), (0, a2), (0, a3), (0, r41)] [(0, 0)] m0 Q
                          refine zw_40_4 zr_126_52 ?_ ?_
                          · intro h43; omega
                          · intro h44
                            refine zw_push zr_126_55 ?_
                            refine zw_R zr_126_57 (by decide) zm_126 (v := (0, (-3))) rfl ?_
                            rw [← hQ]; exact ⟨_, rfl, by omega, by omega, hI0, hF0⟩
                        · intro h45
                          refine zw_3 zr_100_5 rfl ?_
                          refine zw_3 zr_100_6 rfl ?_
                          refine zw_41_2 zr_100_7 ?_ ?_
                          · intro h46
                            refine zw_push zr_100_14 ?_
                            refine zw_R zr_100_15 (by decide) zm_100 (v := (0, 0)) (zRetB (by omega)) ?_
                            rw [← hQ1]
                            show zW E (d) 126 52 [(2, 0), (0, a0), (0, a1), (0, a2), (0, a3), (0, r41)] [(0, 0)] m0 Q
                            refine zw_40_4 zr_126_52 ?_ ?_
                            · intro h47; omega
                            · intro h48
                              refine zw_push zr_126_55 ?_
                              refine zw_R zr_126_57 (by decide) zm_126 (v := (0, (-3))) rfl ?_
                              rw [← hQ]; exact ⟨_, rfl, by omega, by omega, hI0, hF0⟩
                          · intro h49
                            refine zw_push zr_100_10 ?_
                            refine zw_42 zr_100_11 ?_
                            refine zw_R zr_100_15 (by decide) zm_100 (v := (0, 1)) (zRetB (by omega)) ?_
                            rw [← hQ1]
                            show zW E (d) 126 52 [(2, 0), (0, a0), (0, a1), (0, a2), (0, a3), (0, r41)] [(0, 1)] m0 Q
                            refine zw_40_4 zr_126_52 ?_ ?_
                            · intro h50
                              refine zw_7 zr_126_58 rfl ?_
                              refine zw_46r (s := 42) zr_126_59 rfl rfl rfl rfl ?_
                              refine zw_4 zr_126_62 rfl ?_
                              refine zw_7 zr_126_64 rfl ?_
                              refine zw_46r (s := 1) zr_126_65 rfl rfl rfl rfl ?_
                              refine zw_3 zr_126_68 rfl ?_
                              refine zw_3 zr_126_69 rfl ?_
                              refine zw_C zr_126_70 (Or.inl rfl) zm_57 rfl rfl ⟨Nat.le_of_ble_eq_true rfl, Nat.le_of_ble_eq_true rfl, Nat.le_of_ble_eq_true rfl, rfl, by decide⟩ (by omega) (th_57 (d := d - 1) (by omega) hI0 (a0 := a0) (a1 := a1)   (by omega) (by omega)) ?_
                              rintro _ _ ⟨r51, rfl, hr51a, hr51b, rfl⟩
                              show zW E (d) 126 73 [(2, 0), (0, a0), (0, a1), (0, a2), (0, a3), (0, r41)] [(0, r51), (0, r41), (2, 42)] m0 Q
                              refine zw_3 zr_126_73 rfl ?_
                              refine zw_4 zr_126_74 rfl ?_
                              refine zw_C zr_126_76 (Or.inr rfl) zm_2 rfl rfl ⟨Nat.le_of_ble_eq_true rfl, Nat.le_of_ble_eq_true rfl, Nat.le_of_ble_eq_true rfl, rfl, by decide⟩ (by omega) (th_2 (d := d - 1) (by omega) hI0 (a0 := r41) (a1 := r51) (a2 := a2) (a3 := a3)   (by omega) (by omega) (by omega) (by omega)) ?_
                              rintro _ _ ⟨r52, rfl, hr52a, hr52b, rfl⟩
                              show zW E (d) 126 79 [(2, 0), (0, a0), (0, a1), (0, a2), (0, a3), (0, r41)] [(1, r52), (2, 42)] m0 Q
                              refine zw_4 zr_126_79 rfl ?_
                              refine zw_4 zr_126_81 rfl ?_
                              refine zw_C zr_126_83 (Or.inr rfl) zm_1 rfl rfl ⟨Nat.le_of_ble_eq_true rfl, Nat.le_of_ble_eq_true rfl, Nat.le_of_ble_eq_true rfl, rfl, by decide⟩ (by omega) (th_1 (d := d - 1) (by omega) hI0 (a0 := a3) (a1 := r41)   (by omega) (by omega)) ?_
                              rintro _ _ ⟨r53, rfl, hr53a, hr53b, rfl⟩
                              show zW E (d) 126 86 [(2, 0), (0, a0), (0, a1), (0, a2), (0, a3), (0, r41)] [(1, r53), (1, r52), (2, 42)] m0 Q
                              refine zw_C zr_126_86 (Or.inl rfl) zm_38 rfl rfl ⟨Nat.le_of_ble_eq_true rfl, Nat.le_of_ble_eq_true rfl, Nat.le_of_ble_eq_true rfl, rfl, by decide⟩ (by omega) (th_38 (d := d - 1) (by omega) hI0 (a0 := r52) (a1 := r53)   (by omega) (by omega)) ?_
                              rintro _ m54 ⟨rfl, hIm54, gm54⟩
                              have hFm54 : zFr W_126 m0 m54 := hF0.trans gm54 rfl
                              have km54_1_0 : m54 1 0 = f7 := (gm54 1 0 rfl).trans ef7
                              show zW E (d) 126 89 [(2, 0), (0, a0), (0, a1), (0, a2), (0, a3), (0, r41)] [] m54 Q
                              refine zw_push zr_126_89 ?_
                              refine zw_R zr_126_90 (by decide) zm_126 (v := (0, 1)) rfl ?_
                              rw [← hQ]; exact ⟨_, rfl, by omega, by omega, hIm54, hFm54⟩
                            · intro h55; omega
                      · intro h56
                        refine zw_push zr_126_30 ?_
                        refine zw_R zr_126_32 (by decide) zm_126 (v := (0, (-2))) rfl ?_
                        rw [← hQ]; exact ⟨_, rfl, by omega, by omega, hI0, hF0⟩

set_option maxHeartbeats 8000000 in
theorem th_200 {E : zE} {d : Nat} {m0 : zM} {a0 : Int} {a1 : Int} {a2 : Int} (hd : 3 ≤ d) (hI0 : zInv m0) (ha0 : 0 ≤ a0 ∧ a0 ≤ 9) (ha1 : 0 ≤ a1 ∧ a1 ≤ 9) (ha2 : 0 ≤ a2 ∧ a2 ≤ 1) : zC E d 200 [(2, 69), (0, a0), (0, a1), (0, a2)] m0 (fun v m' => ∃ r : Int, v = (0, r) ∧ (-2147483648) ≤ r ∧ r ≤ 2147483647 ∧ m0 = m') := by
  generalize hQ : (fun (v : zV) (m' : zM) => ∃ r : Int, v = (0, r) ∧ (-2147483648) ≤ r ∧ r ≤ 2147483647 ∧ m0 = m') = Q
  show zW E d 200 0 [(2, 69), (0, a0), (0, a1), (0, a2), (9, 0), (9, 0)] [] m0 Q
  refine zw_push zr_200_0 ?_
  refine zw_10 (L' := [(2, 69), (0, a0), (0, a1), (0, a2), (0, 0), (9, 0)]) zr_200_1 (Nat.le_of_ble_eq_true rfl) rfl ?_
  refine zw_push zr_200_3 ?_
  refine zw_10 (L' := [(2, 69), (0, a0), (0, a1), (0, a2), (0, 0), (0, 0)]) zr_200_4 (Nat.le_of_ble_eq_true rfl) rfl ?_
  have lp6_3 : ∀ (nlp6_3 : Nat) (i1 i2 : Int), (-2147483648) ≤ i1 → i1 ≤ 2147483647 → 0 ≤ i2 → i2 ≤ 60 → (60 - i2).toNat < nlp6_3 → zW E (d) 200 6 [(2, 69), (0, a0), (0, a1), (0, a2), (0, i1), (0, i2)] [] m0 Q := by
    intro nlp6_3
    induction nlp6_3 with
    | zero =>
      intros
      exact absurd (by assumption : _ < 0) (Nat.not_lt_zero _)
    | succ nlp6_3 ihlp6_3 =>
      intro i1 i2 li1 ui1 li2 ui2 hmlp6_3
      refine zw_4 zr_200_6 rfl ?_
      refine zw_7 zr_200_8 rfl ?_
      refine zw_C zr_200_9 (Or.inl rfl) zm_142 rfl rfl ⟨Nat.le_of_ble_eq_true rfl, Nat.le_of_ble_eq_true rfl, Nat.le_of_ble_eq_true rfl, rfl, by decide⟩ (by omega) (P := (fun v m' => zW E (d) 200 12 [(2, 69), (0, a0), (0, a1), (0, a2), (0, i1), (0, i2)] (if v.1 = 9 then [(0, i2)] else v :: [(0, i2)]) m' Q)) ?_ (fun _ _ h => h)
      generalize hQ1 : (fun v m' => zW E (d) 200 12 [(2, 69), (0, a0), (0, a1), (0, a2), (0, i1), (0, i2)] (if v.1 = 9 then [(0, i2)] else v :: [(0, i2)]) m' Q) = Q1
      show zW E (d - 1) 142 0 [(2, 69)] [] m0 Q1
      refine zw_7 zr_142_0 rfl ?_
      refine zw_46r (s := 70) zr_142_1 rfl rfl rfl rfl ?_
      refine zw_push zr_142_4 ?_
      obtain ⟨f5, ef5⟩ : ∃ v, m0 70 823 = v := ⟨_, rfl⟩
      have bf5 : 0 ≤ m0 70 823 ∧ m0 70 823 ≤ 60 := ib_70_meetings hI0 (by omega)
      rw [ef5] at bf5
      refine zw_48k (c := 70) (len := 826) zr_142_7 rfl rfl (by omega) (by omega) (show (823 : Int).toNat = 823 by omega) ef5 ?_
      refine zw_R zr_142_8 (by decide) zm_142 (v := (0, f5)) rfl ?_
      rw [← hQ1]
      show zW E (d) 200 12 [(2, 69), (0, a0), (0, a1), (0, a2), (0, i1), (0, i2)] [(0, f5), (0, i2)] m0 Q
      refine zw_41_3 zr_200_12 ?_ ?_
      · intro h6
        refine zw_4 zr_200_66 rfl ?_
        refine zw_R zr_200_68 (by decide) zm_200 (v := (0, i1)) rfl ?_
        rw [← hQ]; exact ⟨_, rfl, by omega, by omega, rfl⟩
      · intro h7
        refine zw_4 zr_200_15 rfl ?_
        refine zw_7 zr_200_17 rfl ?_
        refine zw_4 zr_200_18 rfl ?_
        refine zw_3 zr_200_20 rfl ?_
        refine zw_C zr_200_21 (Or.inl rfl) zm_171 rfl rfl ⟨Nat.le_of_ble_eq_true rfl, Nat.le_of_ble_eq_true rfl, Nat.le_of_ble_eq_true rfl, rfl, by decide⟩ (by omega) (P := (fun v m' => zW E (d) 200 24 [(2, 69), (0, a0), (0, a1), (0, a2), (0, i1), (0, i2)] (if v.1 = 9 then [(0, i1)] else v :: [(0, i1)]) m' Q)) ?_ (fun _ _ h => h)
        generalize hQ1 : (fun v m' => zW E (d) 200 24 [(2, 69), (0, a0), (0, a1), (0, a2), (0, i1), (0, i2)] (if v.1 = 9 then [(0, i1)] else v :: [(0, i1)]) m' Q) = Q1
        show zW E (d - 1) 171 0 [(2, 69), (0, i2), (0, a0)] [] m0 Q1
        refine zw_7 zr_171_0 rfl ?_
        refine zw_3 zr_171_1 rfl ?_
        refine zw_push zr_171_2 ?_
        refine zw_C zr_171_3 (Or.inl rfl) zm_144 rfl rfl ⟨Nat.le_of_ble_eq_true rfl, Nat.le_of_ble_eq_true rfl, Nat.le_of_ble_eq_true rfl, rfl, by decide⟩ (by omega) (P := (fun v m' => zW E (d - 1) 171 6 [(2, 69), (0, i2), (0, a0)] (if v.1 = 9 then [] else v :: []) m' Q1)) ?_ (fun _ _ h => h)
        generalize hQ2 : (fun v m' => zW E (d - 1) 171 6 [(2, 69), (0, i2), (0, a0)] (if v.1 = 9 then [] else v :: []) m' Q1) = Q2
        show zW E (d - 1 - 1) 144 0 [(2, 69), (0, i2), (0, 1)] [] m0 Q2
        refine zw_7 zr_144_0 rfl ?_
        refine zw_46r (s := 70) zr_144_1 rfl rfl rfl rfl ?_
        refine zw_push zr_144_4 ?_
        refine zw_push zr_144_6 ?_
        refine zw_3 zr_144_8 rfl ?_
        refine zw_18 zr_144_9 (by omega) ?_
        refine zw_16 zr_144_10 (by omega) ?_
        refine zw_3 zr_144_11 rfl ?_
        refine zw_16 zr_144_12 (by omega) ?_
        refine zw_48 (c := 70) (len := 826) zr_144_13 rfl rfl (by omega) (by omega) ?_
        intro x8 ex8
        have bx8 := ib_70_m1 hI0 (k := (((90 + (6 * i2)) + 1)).toNat) (by omega)
        rw [← ex8] at bx8
        refine zw_R zr_144_14 (by decide) zm_144 (v := (0, x8)) rfl ?_
        rw [← hQ2]
        show zW E (d - 1) 171 6 [(2, 69), (0, i2), (0, a0)] [(0, x8)] m0 Q1
        refine zw_3 zr_171_6 rfl ?_
        refine zw_41_1 zr_171_7 ?_ ?_
        · intro h9
          refine zw_push zr_171_20 ?_
          refine zw_42 zr_171_21 ?_
          refine zw_R zr_171_25 (by decide) zm_171 (v := (0, 1)) (zRetB (by omega)) ?_
          rw [← hQ1]
          show zW E (d) 200 24 [(2, 69), (0, a0), (0, a1), (0, a2), (0, i1), (0, i2)] [(0, 1), (0, i1)] m0 Q
          refine zw_40_1 zr_200_24 ?_ ?_
          · intro h10; omega
          · intro h11
            refine zw_7 zr_200_27 rfl ?_
            refine zw_4 zr_200_28 rfl ?_
            refine zw_3 zr_200_30 rfl ?_
            refine zw_C zr_200_31 (Or.inl rfl) zm_171 rfl rfl ⟨Nat.le_of_ble_eq_true rfl, Nat.le_of_ble_eq_true rfl, Nat.le_of_ble_eq_true rfl, rfl, by decide⟩ (by omega) (P := (fun v m' => zW E (d) 200 34 [(2, 69), (0, a0), (0, a1), (0, a2), (0, i1), (0, i2)] (if v.1 = 9 then [(0, i1)] else v :: [(0, i1)]) m' Q)) ?_ (fun _ _ h => h)
            generalize hQ1 : (fun v m' => zW E (d) 200 34 [(2, 69), (0, a0), (0, a1), (0, a2), (0, i1), (0, i2)] (if v.1 = 9 then [(0, i1)] else v :: [(0, i1)]) m' Q) = Q1
            show zW E (d - 1) 171 0 [(2, 69), (0, i2), (0, a1)] [] m0 Q1
            refine zw_7 zr_171_0 rfl ?_
            refine zw_3 zr_171_1 rfl ?_
            refine zw_push zr_171_2 ?_
            refine zw_C zr_171_3 (Or.inl rfl) zm_144 rfl rfl ⟨Nat.le_of_ble_eq_true rfl, Nat.le_of_ble_eq_true rfl, Nat.le_of_ble_eq_true rfl, rfl, by decide⟩ (by omega) (P := (fun v m' => zW E (d - 1) 171 6 [(2, 69), (0, i2), (0, a1)] (if v.1 = 9 then [] else v :: []) m' Q1)) ?_ (fun _ _ h => h)
            generalize hQ2 : (fun v m' => zW E (d - 1) 171 6 [(2, 69), (0, i2), (0, a1)] (if v.1 = 9 then [] else v :: []) m' Q1) = Q2
            show zW E (d - 1 - 1) 144 0 [(2, 69), (0, i2), (0, 1)] [] m0 Q2
            refine zw_7 zr_144_0 rfl ?_
            refine zw_46r (s := 70) zr_144_1 rfl rfl rfl rfl ?_
            refine zw_push zr_144_4 ?_
            refine zw_push zr_144_6 ?_
            refine zw_3 zr_144_8 rfl ?_
            refine zw_18 zr_144_9 (by omega) ?_
            refine zw_16 zr_144_10 (by omega) ?_
            refine zw_3 zr_144_11 rfl ?_
            refine zw_16 zr_144_12 (by omega) ?_
            refine zw_48k (c := 70) (len := 826) zr_144_13 rfl rfl (by omega) (by omega) rfl ex8.symm ?_
            refine zw_R zr_144_14 (by decide) zm_144 (v := (0, x8)) rfl ?_
            rw [← hQ2]
            show zW E (d - 1) 171 6 [(2, 69), (0, i2), (0, a1)] [(0, x8)] m0 Q1
            refine zw_3 zr_171_6 rfl ?_
            refine zw_41_1 zr_171_7 ?_ ?_
            · intro h12
              refine zw_push zr_171_20 ?_
              refine zw_42 zr_171_21 ?_
              refine zw_R zr_171_25 (by decide) zm_171 (v := (0, 1)) (zRetB (by omega)) ?_
              rw [← hQ1]
              show zW E (d) 200 34 [(2, 69), (0, a0), (0, a1), (0, a2), (0, i1), (0, i2)] [(0, 1), (0, i1)] m0 Q
              refine zw_40_1 zr_200_34 ?_ ?_
              · intro h13; omega
              · intro h14
                refine zw_3 zr_200_37 rfl ?_
                refine zw_40_1 zr_200_38 ?_ ?_
                · intro h15
                  refine zw_push zr_200_52 ?_
                  refine zw_42 zr_200_53 ?_
                  refine zw_16h zr_200_57 ?_
                  intro x16 hx16a hx16b
                  refine zw_10 (L' := [(2, 69), (0, a0), (0, a1), (0, a2), (0, x16), (0, i2)]) zr_200_58 (Nat.le_of_ble_eq_true rfl) rfl ?_
                  refine zw_15 (c := 1) (L' := [(2, 69), (0, a0), (0, a1), (0, a2), (0, x16), (0, (i2 + 1))]) zr_200_60 rfl (by decide) (by omega) rfl ?_
                  refine zw_42 zr_200_63 ?_
                  exact zw_less (L := [(2, 69), (0, a0), (0, a1), (0, a2), (0, x16), (0, (i2 + 1))]) ⟨Or.inr rfl, Or.inr rfl, Or.inr rfl, Or.inr rfl, Or.inr rfl, Or.inr rfl, trivial⟩ (ihlp6_3 (x16) ((i2 + 1))  (by omega) (by omega) (by omega) (by omega) (by omega))
                · intro h17
                  refine zw_7 zr_200_41 rfl ?_
                  refine zw_4 zr_200_42 rfl ?_
                  refine zw_push zr_200_44 ?_
                  refine zw_C zr_200_45 (Or.inl rfl) zm_144 rfl rfl ⟨Nat.le_of_ble_eq_true rfl, Nat.le_of_ble_eq_true rfl, Nat.le_of_ble_eq_true rfl, rfl, by decide⟩ (by omega) (P := (fun v m' => zW E (d) 200 48 [(2, 69), (0, a0), (0, a1), (0, a2), (0, i1), (0, i2)] (if v.1 = 9 then [(0, i1)] else v :: [(0, i1)]) m' Q)) ?_ (fun _ _ h => h)
                  generalize hQ1 : (fun v m' => zW E (d) 200 48 [(2, 69), (0, a0), (0, a1), (0, a2), (0, i1), (0, i2)] (if v.1 = 9 then [(0, i1)] else v :: [(0, i1)]) m' Q) = Q1
                  show zW E (d - 1) 144 0 [(2, 69), (0, i2), (0, 3)] [] m0 Q1
                  refine zw_7 zr_144_0 rfl ?_
                  refine zw_46r (s := 70) zr_144_1 rfl rfl rfl rfl ?_
                  refine zw_push zr_144_4 ?_
                  refine zw_push zr_144_6 ?_
                  refine zw_3 zr_144_8 rfl ?_
                  refine zw_18 zr_144_9 (by omega) ?_
                  refine zw_16 zr_144_10 (by omega) ?_
                  refine zw_3 zr_144_11 rfl ?_
                  refine zw_16 zr_144_12 (by omega) ?_
                  refine zw_48 (c := 70) (len := 826) zr_144_13 rfl rfl (by omega) (by omega) ?_
                  intro x18 ex18
                  have bx18 := ib_70_m3 hI0 (k := (((90 + (6 * i2)) + 3)).toNat) (by omega)
                  rw [← ex18] at bx18
                  clear ex18
                  refine zw_R zr_144_14 (by decide) zm_144 (v := (0, x18)) rfl ?_
                  rw [← hQ1]
                  show zW E (d) 200 48 [(2, 69), (0, a0), (0, a1), (0, a2), (0, i1), (0, i2)] [(0, x18), (0, i1)] m0 Q
                  refine zw_push zr_200_48 ?_
                  refine zw_41_4 zr_200_49 ?_ ?_
                  · intro h19
                    refine zw_push zr_200_56 ?_
                    refine zw_16 zr_200_57 (by omega) ?_
                    refine zw_10 (L' := [(2, 69), (0, a0), (0, a1), (0, a2), (0, (i1 + 0)), (0, i2)]) zr_200_58 (Nat.le_of_ble_eq_true rfl) rfl ?_
                    refine zw_15 (c := 1) (L' := [(2, 69), (0, a0), (0, a1), (0, a2), (0, (i1 + 0)), (0, (i2 + 1))]) zr_200_60 rfl (by decide) (by omega) rfl ?_
                    refine zw_42 zr_200_63 ?_
                    exact zw_less (L := [(2, 69), (0, a0), (0, a1), (0, a2), (0, (i1 + 0)), (0, (i2 + 1))]) ⟨Or.inr rfl, Or.inr rfl, Or.inr rfl, Or.inr rfl, Or.inr rfl, Or.inr rfl, trivial⟩ (ihlp6_3 ((i1 + 0)) ((i2 + 1))  (by omega) (by omega) (by omega) (by omega) (by omega))
                  · intro h20
                    refine zw_push zr_200_52 ?_
                    refine zw_42 zr_200_53 ?_
                    refine zw_16h zr_200_57 ?_
                    intro x21 hx21a hx21b
                    refine zw_10 (L' := [(2, 69), (0, a0), (0, a1), (0, a2), (0, x21), (0, i2)]) zr_200_58 (Nat.le_of_ble_eq_true rfl) rfl ?_
                    refine zw_15 (c := 1) (L' := [(2, 69), (0, a0), (0, a1), (0, a2), (0, x21), (0, (i2 + 1))]) zr_200_60 rfl (by decide) (by omega) rfl ?_
                    refine zw_42 zr_200_63 ?_
                    exact zw_less (L := [(2, 69), (0, a0), (0, a1), (0, a2), (0, x21), (0, (i2 + 1))]) ⟨Or.inr rfl, Or.inr rfl, Or.inr rfl, Or.inr rfl, Or.inr rfl, Or.inr rfl, trivial⟩ (ihlp6_3 (x21) ((i2 + 1))  (by omega) (by omega) (by omega) (by omega) (by omega))
            · intro h22
              refine zw_7 zr_171_10 rfl ?_
              refine zw_3 zr_171_11 rfl ?_
              refine zw_push zr_171_12 ?_
              refine zw_C zr_171_13 (Or.inl rfl) zm_144 rfl rfl ⟨Nat.le_of_ble_eq_true rfl, Nat.le_of_ble_eq_true rfl, Nat.le_of_ble_eq_true rfl, rfl, by decide⟩ (by omega) (P := (fun v m' => zW E (d - 1) 171 16 [(2, 69), (0, i2), (0, a1)] (if v.1 = 9 then [] else v :: []) m' Q1)) ?_ (fun _ _ h => h)
              generalize hQ2 : (fun v m' => zW E (d - 1) 171 16 [(2, 69), (0, i2), (0, a1)] (if v.1 = 9 then [] else v :: []) m' Q1) = Q2
              show zW E (d - 1 - 1) 144 0 [(2, 69), (0, i2), (0, 2)] [] m0 Q2
              refine zw_7 zr_144_0 rfl ?_
              refine zw_46r (s := 70) zr_144_1 rfl rfl rfl rfl ?_
              refine zw_push zr_144_4 ?_
              refine zw_push zr_144_6 ?_
              refine zw_3 zr_144_8 rfl ?_
              refine zw_18 zr_144_9 (by omega) ?_
              refine zw_16 zr_144_10 (by omega) ?_
              refine zw_3 zr_144_11 rfl ?_
              refine zw_16 zr_144_12 (by omega) ?_
              refine zw_48 (c := 70) (len := 826) zr_144_13 rfl rfl (by omega) (by omega) ?_
              intro x23 ex23
              have bx23 := ib_70_m2 hI0 (k := (((90 + (6 * i2)) + 2)).toNat) (by omega)
              rw [← ex23] at bx23
              refine zw_R zr_144_14 (by decide) zm_144 (v := (0, x23)) rfl ?_
              rw [← hQ2]
              show zW E (d - 1) 171 16 [(2, 69), (0, i2), (0, a1)] [(0, x23)] m0 Q1
              refine zw_3 zr_171_16 rfl ?_
              refine zw_41_4 zr_171_17 ?_ ?_
              · intro h24
                refine zw_push zr_171_24 ?_
                refine zw_R zr_171_25 (by decide) zm_171 (v := (0, 0)) (zRetB (by omega)) ?_
                rw [← hQ1]
                show zW E (d) 200 34 [(2, 69), (0, a0), (0, a1), (0, a2), (0, i1), (0, i2)] [(0, 0), (0, i1)] m0 Q
                refine zw_40_1 zr_200_34 ?_ ?_
                · intro h25
                  refine zw_push zr_200_56 ?_
                  refine zw_16 zr_200_57 (by omega) ?_
                  refine zw_10 (L' := [(2, 69), (0, a0), (0, a1), (0, a2), (0, (i1 + 0)), (0, i2)]) zr_200_58 (Nat.le_of_ble_eq_true rfl) rfl ?_
                  refine zw_15 (c := 1) (L' := [(2, 69), (0, a0), (0, a1), (0, a2), (0, (i1 + 0)), (0, (i2 + 1))]) zr_200_60 rfl (by decide) (by omega) rfl ?_
                  refine zw_42 zr_200_63 ?_
                  exact zw_less (L := [(2, 69), (0, a0), (0, a1), (0, a2), (0, (i1 + 0)), (0, (i2 + 1))]) ⟨Or.inr rfl, Or.inr rfl, Or.inr rfl, Or.inr rfl, Or.inr rfl, Or.inr rfl, trivial⟩ (ihlp6_3 ((i1 + 0)) ((i2 + 1))  (by omega) (by omega) (by omega) (by omega) (by omega))
                · intro h26; omega
              · intro h27
                refine zw_push zr_171_20 ?_
                refine zw_42 zr_171_21 ?_
                refine zw_R zr_171_25 (by decide) zm_171 (v := (0, 1)) (zRetB (by omega)) ?_
                rw [← hQ1]
                show zW E (d) 200 34 [(2, 69), (0, a0), (0, a1), (0, a2), (0, i1), (0, i2)] [(0, 1), (0, i1)] m0 Q
                refine zw_40_1 zr_200_34 ?_ ?_
                · intro h28; omega
                · intro h29
                  refine zw_3 zr_200_37 rfl ?_
                  refine zw_40_1 zr_200_38 ?_ ?_
                  · intro h30
                    refine zw_push zr_200_52 ?_
                    refine zw_42 zr_200_53 ?_
                    refine zw_16h zr_200_57 ?_
                    intro x31 hx31a hx31b
                    refine zw_10 (L' := [(2, 69), (0, a0), (0, a1), (0, a2), (0, x31), (0, i2)]) zr_200_58 (Nat.le_of_ble_eq_true rfl) rfl ?_
                    refine zw_15 (c := 1) (L' := [(2, 69), (0, a0), (0, a1), (0, a2), (0, x31), (0, (i2 + 1))]) zr_200_60 rfl (by decide) (by omega) rfl ?_
                    refine zw_42 zr_200_63 ?_
                    exact zw_less (L := [(2, 69), (0, a0), (0, a1), (0, a2), (0, x31), (0, (i2 + 1))]) ⟨Or.inr rfl, Or.inr rfl, Or.inr rfl, Or.inr rfl, Or.inr rfl, Or.inr rfl, trivial⟩ (ihlp6_3 (x31) ((i2 + 1))  (by omega) (by omega) (by omega) (by omega) (by omega))
                  · intro h32
                    refine zw_7 zr_200_41 rfl ?_
                    refine zw_4 zr_200_42 rfl ?_
                    refine zw_push zr_200_44 ?_
                    refine zw_C zr_200_45 (Or.inl rfl) zm_144 rfl rfl ⟨Nat.le_of_ble_eq_true rfl, Nat.le_of_ble_eq_true rfl, Nat.le_of_ble_eq_true rfl, rfl, by decide⟩ (by omega) (P := (fun v m' => zW E (d) 200 48 [(2, 69), (0, a0), (0, a1), (0, a2), (0, i1), (0, i2)] (if v.1 = 9 then [(0, i1)] else v :: [(0, i1)]) m' Q)) ?_ (fun _ _ h => h)
                    generalize hQ1 : (fun v m' => zW E (d) 200 48 [(2, 69), (0, a0), (0, a1), (0, a2), (0, i1), (0, i2)] (if v.1 = 9 then [(0, i1)] else v :: [(0, i1)]) m' Q) = Q1
                    show zW E (d - 1) 144 0 [(2, 69), (0, i2), (0, 3)] [] m0 Q1
                    refine zw_7 zr_144_0 rfl ?_
                    refine zw_46r (s := 70) zr_144_1 rfl rfl rfl rfl ?_
                    refine zw_push zr_144_4 ?_
                    refine zw_push zr_144_6 ?_
                    refine zw_3 zr_144_8 rfl ?_
                    refine zw_18 zr_144_9 (by omega) ?_
                    refine zw_16 zr_144_10 (by omega) ?_
                    refine zw_3 zr_144_11 rfl ?_
                    refine zw_16 zr_144_12 (by omega) ?_
                    refine zw_48 (c := 70) (len := 826) zr_144_13 rfl rfl (by omega) (by omega) ?_
                    intro x33 ex33
                    have bx33 := ib_70_m3 hI0 (k := (((90 + (6 * i2)) + 3)).toNat) (by omega)
                    rw [← ex33] at bx33
                    clear ex33
                    refine zw_R zr_144_14 (by decide) zm_144 (v := (0, x33)) rfl ?_
                    rw [← hQ1]
                    show zW E (d) 200 48 [(2, 69), (0, a0), (0, a1), (0, a2), (0, i1), (0, i2)] [(0, x33), (0, i1)] m0 Q
                    refine zw_push zr_200_48 ?_
                    refine zw_41_4 zr_200_49 ?_ ?_
                    · intro h34
                      refine zw_push zr_200_56 ?_
                      refine zw_16 zr_200_57 (by omega) ?_
                      refine zw_10 (L' := [(2, 69), (0, a0), (0, a1), (0, a2), (0, (i1 + 0)), (0, i2)]) zr_200_58 (Nat.le_of_ble_eq_true rfl) rfl ?_
                      refine zw_15 (c := 1) (L' := [(2, 69), (0, a0), (0, a1), (0, a2), (0, (i1 + 0)), (0, (i2 + 1))]) zr_200_60 rfl (by decide) (by omega) rfl ?_
                      refine zw_42 zr_200_63 ?_
                      exact zw_less (L := [(2, 69), (0, a0), (0, a1), (0, a2), (0, (i1 + 0)), (0, (i2 + 1))]) ⟨Or.inr rfl, Or.inr rfl, Or.inr rfl, Or.inr rfl, Or.inr rfl, Or.inr rfl, trivial⟩ (ihlp6_3 ((i1 + 0)) ((i2 + 1))  (by omega) (by omega) (by omega) (by omega) (by omega))
                    · intro h35
                      refine zw_push zr_200_52 ?_
                      refine zw_42 zr_200_53 ?_
                      refine zw_16h zr_200_57 ?_
                      intro x36 hx36a hx36b
                      refine zw_10 (L' := [(2, 69), (0, a0), (0, a1), (0, a2), (0, x36), (0, i2)]) zr_200_58 (Nat.le_of_ble_eq_true rfl) rfl ?_
                      refine zw_15 (c := 1) (L' := [(2, 69), (0, a0), (0, a1), (0, a2), (0, x36), (0, (i2 + 1))]) zr_200_60 rfl (by decide) (by omega) rfl ?_
                      refine zw_42 zr_200_63 ?_
                      exact zw_less (L := [(2, 69), (0, a0), (0, a1), (0, a2), (0, x36), (0, (i2 + 1))]) ⟨Or.inr rfl, Or.inr rfl, Or.inr rfl, Or.inr rfl, Or.inr rfl, Or.inr rfl, trivial⟩ (ihlp6_3 (x36) ((i2 + 1))  (by omega) (by omega) (by omega) (by omega) (by omega))
        · intro h37
          refine zw_7 zr_171_10 rfl ?_
          refine zw_3 zr_171_11 rfl ?_
          refine zw_push zr_171_12 ?_
          refine zw_C zr_171_13 (Or.inl rfl) zm_144 rfl rfl ⟨Nat.le_of_ble_eq_true rfl, Nat.le_of_ble_eq_true rfl, Nat.le_of_ble_eq_true rfl, rfl, by decide⟩ (by omega) (P := (fun v m' => zW E (d - 1) 171 16 [(2, 69), (0, i2), (0, a0)] (if v.1 = 9 then [] else v :: []) m' Q1)) ?_ (fun _ _ h => h)
          generalize hQ2 : (fun v m' => zW E (d - 1) 171 16 [(2, 69), (0, i2), (0, a0)] (if v.1 = 9 then [] else v :: []) m' Q1) = Q2
          show zW E (d - 1 - 1) 144 0 [(2, 69), (0, i2), (0, 2)] [] m0 Q2
          refine zw_7 zr_144_0 rfl ?_
          refine zw_46r (s := 70) zr_144_1 rfl rfl rfl rfl ?_
          refine zw_push zr_144_4 ?_
          refine zw_push zr_144_6 ?_
          refine zw_3 zr_144_8 rfl ?_
          refine zw_18 zr_144_9 (by omega) ?_
          refine zw_16 zr_144_10 (by omega) ?_
          refine zw_3 zr_144_11 rfl ?_
          refine zw_16 zr_144_12 (by omega) ?_
          refine zw_48 (c := 70) (len := 826) zr_144_13 rfl rfl (by omega) (by omega) ?_
          intro x38 ex38
          have bx38 := ib_70_m2 hI0 (k := (((90 + (6 * i2)) + 2)).toNat) (by omega)
          rw [← ex38] at bx38
          refine zw_R zr_144_14 (by decide) zm_144 (v := (0, x38)) rfl ?_
          rw [← hQ2]
          show zW E (d - 1) 171 16 [(2, 69), (0, i2), (0, a0)] [(0, x38)] m0 Q1
          refine zw_3 zr_171_16 rfl ?_
          refine zw_41_4 zr_171_17 ?_ ?_
          · intro h39
            refine zw_push zr_171_24 ?_
            refine zw_R zr_171_25 (by decide) zm_171 (v := (0, 0)) (zRetB (by omega)) ?_
            rw [← hQ1]
            show zW E (d) 200 24 [(2, 69), (0, a0), (0, a1), (0, a2), (0, i1), (0, i2)] [(0, 0), (0, i1)] m0 Q
            refine zw_40_1 zr_200_24 ?_ ?_
            · intro h40
              refine zw_push zr_200_56 ?_
              refine zw_16 zr_200_57 (by omega) ?_
              refine zw_10 (L' := [(2, 69), (0, a0), (0, a1), (0, a2), (0, (i1 + 0)), (0, i2)]) zr_200_58 (Nat.le_of_ble_eq_true rfl) rfl ?_
              refine zw_15 (c := 1) (L' := [(2, 69), (0, a0), (0, a1), (0, a2), (0, (i1 + 0)), (0, (i2 + 1))]) zr_200_60 rfl (by decide) (by omega) rfl ?_
              refine zw_42 zr_200_63 ?_
              exact zw_less (L := [(2, 69), (0, a0), (0, a1), (0, a2), (0, (i1 + 0)), (0, (i2 + 1))]) ⟨Or.inr rfl, Or.inr rfl, Or.inr rfl, Or.inr rfl, Or.inr rfl, Or.inr rfl, trivial⟩ (ihlp6_3 ((i1 + 0)) ((i2 + 1))  (by omega) (by omega) (by omega) (by omega) (by omega))
            · intro h41; omega
          · intro h42
            refine zw_push zr_171_20 ?_
            refine zw_42 zr_171_21 ?_
            refine zw_R zr_171_25 (by decide) zm_171 (v := (0, 1)) (zRetB (by omega)) ?_
            rw [← hQ1]
            show zW E (d) 200 24 [(2, 69), (0, a0), (0, a1), (0, a2), (0, i1), (0, i2)] [(0, 1), (0, i1)] m0 Q
            refine zw_40_1 zr_200_24 ?_ ?_
            · intro h43; omega
            · intro h44
              refine zw_7 zr_200_27 rfl ?_
              refine zw_4 zr_200_28 rfl ?_
              refine zw_3 zr_200_30 rfl ?_
              refine zw_C zr_200_31 (Or.inl rfl) zm_171 rfl rfl ⟨Nat.le_of_ble_eq_true rfl, Nat.le_of_ble_eq_true rfl, Nat.le_of_ble_eq_true rfl, rfl, by decide⟩ (by omega) (P := (fun v m' => zW E (d) 200 34 [(2, 69), (0, a0), (0, a1), (0, a2), (0, i1), (0, i2)] (if v.1 = 9 then [(0, i1)] else v :: [(0, i1)]) m' Q)) ?_ (fun _ _ h => h)
              generalize hQ1 : (fun v m' => zW E (d) 200 34 [(2, 69), (0, a0), (0, a1), (0, a2), (0, i1), (0, i2)] (if v.1 = 9 then [(0, i1)] else v :: [(0, i1)]) m' Q) = Q1
              show zW E (d - 1) 171 0 [(2, 69), (0, i2), (0, a1)] [] m0 Q1
              refine zw_7 zr_171_0 rfl ?_
              refine zw_3 zr_171_1 rfl ?_
              refine zw_push zr_171_2 ?_
              refine zw_C zr_171_3 (Or.inl rfl) zm_144 rfl rfl ⟨Nat.le_of_ble_eq_true rfl, Nat.le_of_ble_eq_true rfl, Nat.le_of_ble_eq_true rfl, rfl, by decide⟩ (by omega) (P := (fun v m' => zW E (d - 1) 171 6 [(2, 69), (0, i2), (0, a1)] (if v.1 = 9 then [] else v :: []) m' Q1)) ?_ (fun _ _ h => h)
              generalize hQ2 : (fun v m' => zW E (d - 1) 171 6 [(2, 69), (0, i2), (0, a1)] (if v.1 = 9 then [] else v :: []) m' Q1) = Q2
              show zW E (d - 1 - 1) 144 0 [(2, 69), (0, i2), (0, 1)] [] m0 Q2
              refine zw_7 zr_144_0 rfl ?_
              refine zw_46r (s := 70) zr_144_1 rfl rfl rfl rfl ?_
              refine zw_push zr_144_4 ?_
              refine zw_push zr_144_6 ?_
              refine zw_3 zr_144_8 rfl ?_
              refine zw_18 zr_144_9 (by omega) ?_
              refine zw_16 zr_144_10 (by omega) ?_
              refine zw_3 zr_144_11 rfl ?_
              refine zw_16 zr_144_12 (by omega) ?_
              refine zw_48k (c := 70) (len := 826) zr_144_13 rfl rfl (by omega) (by omega) rfl ex8.symm ?_
              refine zw_R zr_144_14 (by decide) zm_144 (v := (0, x8)) rfl ?_
              rw [← hQ2]
              show zW E (d - 1) 171 6 [(2, 69), (0, i2), (0, a1)] [(0, x8)] m0 Q1
              refine zw_3 zr_171_6 rfl ?_
              refine zw_41_1 zr_171_7 ?_ ?_
              · intro h45
                refine zw_push zr_171_20 ?_
                refine zw_42 zr_171_21 ?_
                refine zw_R zr_171_25 (by decide) zm_171 (v := (0, 1)) (zRetB (by omega)) ?_
                rw [← hQ1]
                show zW E (d) 200 34 [(2, 69), (0, a0), (0, a1), (0, a2), (0, i1), (0, i2)] [(0, 1), (0, i1)] m0 Q
                refine zw_40_1 zr_200_34 ?_ ?_
                · intro h46; omega
                · intro h47
                  refine zw_3 zr_200_37 rfl ?_
                  refine zw_40_1 zr_200_38 ?_ ?_
                  · intro h48
                    refine zw_push zr_200_52 ?_
                    refine zw_42 zr_200_53 ?_
                    refine zw_16h zr_200_57 ?_
                    intro x49 hx49a hx49b
                    refine zw_10 (L' := [(2, 69), (0, a0), (0, a1), (0, a2), (0, x49), (0, i2)]) zr_200_58 (Nat.le_of_ble_eq_true rfl) rfl ?_
                    refine zw_15 (c := 1) (L' := [(2, 69), (0, a0), (0, a1), (0, a2), (0, x49), (0, (i2 + 1))]) zr_200_60 rfl (by decide) (by omega) rfl ?_
                    refine zw_42 zr_200_63 ?_
                    exact zw_less (L := [(2, 69), (0, a0), (0, a1), (0, a2), (0, x49), (0, (i2 + 1))]) ⟨Or.inr rfl, Or.inr rfl, Or.inr rfl, Or.inr rfl, Or.inr rfl, Or.inr rfl, trivial⟩ (ihlp6_3 (x49) ((i2 + 1))  (by omega) (by omega) (by omega) (by omega) (by omega))
                  · intro h50
                    refine zw_7 zr_200_41 rfl ?_
                    refine zw_4 zr_200_42 rfl ?_
                    refine zw_push zr_200_44 ?_
                    refine zw_C zr_200_45 (Or.inl rfl) zm_144 rfl rfl ⟨Nat.le_of_ble_eq_true rfl, Nat.le_of_ble_eq_true rfl, Nat.le_of_ble_eq_true rfl, rfl, by decide⟩ (by omega) (P := (fun v m' => zW E (d) 200 48 [(2, 69), (0, a0), (0, a1), (0, a2), (0, i1), (0, i2)] (if v.1 = 9 then [(0, i1)] else v :: [(0, i1)]) m' Q)) ?_ (fun _ _ h => h)
                    generalize hQ1 : (fun v m' => zW E (d) 200 48 [(2, 69), (0, a0), (0, a1), (0, a2), (0, i1), (0, i2)] (if v.1 = 9 then [(0, i1)] else v :: [(0, i1)]) m' Q) = Q1
                    show zW E (d - 1) 144 0 [(2, 69), (0, i2), (0, 3)] [] m0 Q1
                    refine zw_7 zr_144_0 rfl ?_
                    refine zw_46r (s := 70) zr_144_1 rfl rfl rfl rfl ?_
                    refine zw_push zr_144_4 ?_
                    refine zw_push zr_144_6 ?_
                    refine zw_3 zr_144_8 rfl ?_
                    refine zw_18 zr_144_9 (by omega) ?_
                    refine zw_16 zr_144_10 (by omega) ?_
                    refine zw_3 zr_144_11 rfl ?_
                    refine zw_16 zr_144_12 (by omega) ?_
                    refine zw_48 (c := 70) (len := 826) zr_144_13 rfl rfl (by omega) (by omega) ?_
                    intro x51 ex51
                    have bx51 := ib_70_m3 hI0 (k := (((90 + (6 * i2)) + 3)).toNat) (by omega)
                    rw [← ex51] at bx51
                    clear ex51
                    refine zw_R zr_144_14 (by decide) zm_144 (v := (0, x51)) rfl ?_
                    rw [← hQ1]
                    show zW E (d) 200 48 [(2, 69), (0, a0), (0, a1), (0, a2), (0, i1), (0, i2)] [(0, x51), (0, i1)] m0 Q
                    refine zw_push zr_200_48 ?_
                    refine zw_41_4 zr_200_49 ?_ ?_
                    · intro h52
                      refine zw_push zr_200_56 ?_
                      refine zw_16 zr_200_57 (by omega) ?_
                      refine zw_10 (L' := [(2, 69), (0, a0), (0, a1), (0, a2), (0, (i1 + 0)), (0, i2)]) zr_200_58 (Nat.le_of_ble_eq_true rfl) rfl ?_
                      refine zw_15 (c := 1) (L' := [(2, 69), (0, a0), (0, a1), (0, a2), (0, (i1 + 0)), (0, (i2 + 1))]) zr_200_60 rfl (by decide) (by omega) rfl ?_
                      refine zw_42 zr_200_63 ?_
                      exact zw_less (L := [(2, 69), (0, a0), (0, a1), (0, a2), (0, (i1 + 0)), (0, (i2 + 1))]) ⟨Or.inr rfl, Or.inr rfl, Or.inr rfl, Or.inr rfl, Or.inr rfl, Or.inr rfl, trivial⟩ (ihlp6_3 ((i1 + 0)) ((i2 + 1))  (by omega) (by omega) (by omega) (by omega) (by omega))
                    · intro h53
                      refine zw_push zr_200_52 ?_
                      refine zw_42 zr_200_53 ?_
                      refine zw_16h zr_200_57 ?_
                      intro x54 hx54a hx54b
                      refine zw_10 (L' := [(2, 69), (0, a0), (0, a1), (0, a2), (0, x54), (0, i2)]) zr_200_58 (Nat.le_of_ble_eq_true rfl) rfl ?_
                      refine zw_15 (c := 1) (L' := [(2, 69), (0, a0), (0, a1), (0, a2), (0, x54), (0, (i2 + 1))]) zr_200_60 rfl (by decide) (by omega) rfl ?_
                      refine zw_42 zr_200_63 ?_
                      exact zw_less (L := [(2, 69), (0, a0), (0, a1), (0, a2), (0, x54), (0, (i2 + 1))]) ⟨Or.inr rfl, Or.inr rfl, Or.inr rfl, Or.inr rfl, Or.inr rfl, Or.inr rfl, trivial⟩ (ihlp6_3 (x54) ((i2 + 1))  (by omega) (by omega) (by omega) (by omega) (by omega))
              · intro h55
                refine zw_7 zr_171_10 rfl ?_
                refine zw_3 zr_171_11 rfl ?_
                refine zw_push zr_171_12 ?_
                refine zw_C zr_171_13 (Or.inl rfl) zm_144 rfl rfl ⟨Nat.le_of_ble_eq_true rfl, Nat.le_of_ble_eq_true rfl, Nat.le_of_ble_eq_true rfl, rfl, by decide⟩ (by omega) (P := (fun v m' => zW E (d - 1) 171 16 [(2, 69), (0, i2), (0, a1)] (if v.1 = 9 then [] else v :: []) m' Q1)) ?_ (fun _ _ h => h)
                generalize hQ2 : (fun v m' => zW E (d - 1) 171 16 [(2, 69), (0, i2), (0, a1)] (if v.1 = 9 then [] else v :: []) m' Q1) = Q2
                show zW E (d - 1 - 1) 144 0 [(2, 69), (0, i2), (0, 2)] [] m0 Q2
                refine zw_7 zr_144_0 rfl ?_
                refine zw_46r (s := 70) zr_144_1 rfl rfl rfl rfl ?_
                refine zw_push zr_144_4 ?_
                refine zw_push zr_144_6 ?_
                refine zw_3 zr_144_8 rfl ?_
                refine zw_18 zr_144_9 (by omega) ?_
                refine zw_16 zr_144_10 (by omega) ?_
                refine zw_3 zr_144_11 rfl ?_
                refine zw_16 zr_144_12 (by omega) ?_
                refine zw_48k (c := 70) (len := 826) zr_144_13 rfl rfl (by omega) (by omega) rfl ex38.symm ?_
                refine zw_R zr_144_14 (by decide) zm_144 (v := (0, x38)) rfl ?_
                rw [← hQ2]
                show zW E (d - 1) 171 16 [(2, 69), (0, i2), (0, a1)] [(0, x38)] m0 Q1
                refine zw_3 zr_171_16 rfl ?_
                refine zw_41_4 zr_171_17 ?_ ?_
                · intro h56
                  refine zw_push zr_171_24 ?_
                  refine zw_R zr_171_25 (by decide) zm_171 (v := (0, 0)) (zRetB (by omega)) ?_
                  rw [← hQ1]
                  show zW E (d) 200 34 [(2, 69), (0, a0), (0, a1), (0, a2), (0, i1), (0, i2)] [(0, 0), (0, i1)] m0 Q
                  refine zw_40_1 zr_200_34 ?_ ?_
                  · intro h57
                    refine zw_push zr_200_56 ?_
                    refine zw_16 zr_200_57 (by omega) ?_
                    refine zw_10 (L' := [(2, 69), (0, a0), (0, a1), (0, a2), (0, (i1 + 0)), (0, i2)]) zr_200_58 (Nat.le_of_ble_eq_true rfl) rfl ?_
                    refine zw_15 (c := 1) (L' := [(2, 69), (0, a0), (0, a1), (0, a2), (0, (i1 + 0)), (0, (i2 + 1))]) zr_200_60 rfl (by decide) (by omega) rfl ?_
                    refine zw_42 zr_200_63 ?_
                    exact zw_less (L := [(2, 69), (0, a0), (0, a1), (0, a2), (0, (i1 + 0)), (0, (i2 + 1))]) ⟨Or.inr rfl, Or.inr rfl, Or.inr rfl, Or.inr rfl, Or.inr rfl, Or.inr rfl, trivial⟩ (ihlp6_3 ((i1 + 0)) ((i2 + 1))  (by omega) (by omega) (by omega) (by omega) (by omega))
                  · intro h58; omega
                · intro h59
                  refine zw_push zr_171_20 ?_
                  refine zw_42 zr_171_21 ?_
                  refine zw_R zr_171_25 (by decide) zm_171 (v := (0, 1)) (zRetB (by omega)) ?_
                  rw [← hQ1]
                  show zW E (d) 200 34 [(2, 69), (0, a0), (0, a1), (0, a2), (0, i1), (0, i2)] [(0, 1), (0, i1)] m0 Q
                  refine zw_40_1 zr_200_34 ?_ ?_
                  · intro h60; omega
                  · intro h61
                    refine zw_3 zr_200_37 rfl ?_
                    refine zw_40_1 zr_200_38 ?_ ?_
                    · intro h62
                      refine zw_push zr_200_52 ?_
                      refine zw_42 zr_200_53 ?_
                      refine zw_16h zr_200_57 ?_
                      intro x63 hx63a hx63b
                      refine zw_10 (L' := [(2, 69), (0, a0), (0, a1), (0, a2), (0, x63), (0, i2)]) zr_200_58 (Nat.le_of_ble_eq_true rfl) rfl ?_
                      refine zw_15 (c := 1) (L' := [(2, 69), (0, a0), (0, a1), (0, a2), (0, x63), (0, (i2 + 1))]) zr_200_60 rfl (by decide) (by omega) rfl ?_
                      refine zw_42 zr_200_63 ?_
                      exact zw_less (L := [(2, 69), (0, a0), (0, a1), (0, a2), (0, x63), (0, (i2 + 1))]) ⟨Or.inr rfl, Or.inr rfl, Or.inr rfl, Or.inr rfl, Or.inr rfl, Or.inr rfl, trivial⟩ (ihlp6_3 (x63) ((i2 + 1))  (by omega) (by omega) (by omega) (by omega) (by omega))
                    · intro h64
                      refine zw_7 zr_200_41 rfl ?_
                      refine zw_4 zr_200_42 rfl ?_
                      refine zw_push zr_200_44 ?_
                      refine zw_C zr_200_45 (Or.inl rfl) zm_144 rfl rfl ⟨Nat.le_of_ble_eq_true rfl, Nat.le_of_ble_eq_true rfl, Nat.le_of_ble_eq_true rfl, rfl, by decide⟩ (by omega) (P := (fun v m' => zW E (d) 200 48 [(2, 69), (0, a0), (0, a1), (0, a2), (0, i1), (0, i2)] (if v.1 = 9 then [(0, i1)] else v :: [(0, i1)]) m' Q)) ?_ (fun _ _ h => h)
                      generalize hQ1 : (fun v m' => zW E (d) 200 48 [(2, 69), (0, a0), (0, a1), (0, a2), (0, i1), (0, i2)] (if v.1 = 9 then [(0, i1)] else v :: [(0, i1)]) m' Q) = Q1
                      show zW E (d - 1) 144 0 [(2, 69), (0, i2), (0, 3)] [] m0 Q1
                      refine zw_7 zr_144_0 rfl ?_
                      refine zw_46r (s := 70) zr_144_1 rfl rfl rfl rfl ?_
                      refine zw_push zr_144_4 ?_
                      refine zw_push zr_144_6 ?_
                      refine zw_3 zr_144_8 rfl ?_
                      refine zw_18 zr_144_9 (by omega) ?_
                      refine zw_16 zr_144_10 (by omega) ?_
                      refine zw_3 zr_144_11 rfl ?_
                      refine zw_16 zr_144_12 (by omega) ?_
                      refine zw_48 (c := 70) (len := 826) zr_144_13 rfl rfl (by omega) (by omega) ?_
                      intro x65 ex65
                      have bx65 := ib_70_m3 hI0 (k := (((90 + (6 * i2)) + 3)).toNat) (by omega)
                      rw [← ex65] at bx65
                      clear ex65
                      refine zw_R zr_144_14 (by decide) zm_144 (v := (0, x65)) rfl ?_
                      rw [← hQ1]
                      show zW E (d) 200 48 [(2, 69), (0, a0), (0, a1), (0, a2), (0, i1), (0, i2)] [(0, x65), (0, i1)] m0 Q
                      refine zw_push zr_200_48 ?_
                      refine zw_41_4 zr_200_49 ?_ ?_
                      · intro h66
                        refine zw_push zr_200_56 ?_
                        refine zw_16 zr_200_57 (by omega) ?_
                        refine zw_10 (L' := [(2, 69), (0, a0), (0, a1), (0, a2), (0, (i1 + 0)), (0, i2)]) zr_200_58 (Nat.le_of_ble_eq_true rfl) rfl ?_
                        refine zw_15 (c := 1) (L' := [(2, 69), (0, a0), (0, a1), (0, a2), (0, (i1 + 0)), (0, (i2 + 1))]) zr_200_60 rfl (by decide) (by omega) rfl ?_
                        refine zw_42 zr_200_63 ?_
                        exact zw_less (L := [(2, 69), (0, a0), (0, a1), (0, a2), (0, (i1 + 0)), (0, (i2 + 1))]) ⟨Or.inr rfl, Or.inr rfl, Or.inr rfl, Or.inr rfl, Or.inr rfl, Or.inr rfl, trivial⟩ (ihlp6_3 ((i1 + 0)) ((i2 + 1))  (by omega) (by omega) (by omega) (by omega) (by omega))
                      · intro h67
                        refine zw_push zr_200_52 ?_
                        refine zw_42 zr_200_53 ?_
                        refine zw_16h zr_200_57 ?_
                        intro x68 hx68a hx68b
                        refine zw_10 (L' := [(2, 69), (0, a0), (0, a1), (0, a2), (0, x68), (0, i2)]) zr_200_58 (Nat.le_of_ble_eq_true rfl) rfl ?_
                        refine zw_15 (c := 1) (L' := [(2, 69), (0, a0), (0, a1), (0, a2), (0, x68), (0, (i2 + 1))]) zr_200_60 rfl (by decide) (by omega) rfl ?_
                        refine zw_42 zr_200_63 ?_
                        exact zw_less (L := [(2, 69), (0, a0), (0, a1), (0, a2), (0, x68), (0, (i2 + 1))]) ⟨Or.inr rfl, Or.inr rfl, Or.inr rfl, Or.inr rfl, Or.inr rfl, Or.inr rfl, trivial⟩ (ihlp6_3 (x68) ((i2 + 1))  (by omega) (by omega) (by omega) (by omega) (by omega))
  exact lp6_3 _ (0) (0)  (by omega) (by omega) (by omega) (by omega) (Nat.lt_succ_self _)

set_option maxHeartbeats 8000000 in
theorem th_201 {E : zE} {d : Nat} {m0 : zM} {a0 : Int} {a1 : Int} (hd : 1 ≤ d) (hI0 : zInv m0) (ha0 : 1 ≤ a0 ∧ a0 ≤ 9) (ha1 : (-50) ≤ a1 ∧ a1 ≤ 15) : zC E d 201 [(1, a0), (0, a1)] m0 (fun v m' => ∃ r : Int, v = (1, r) ∧ 1 ≤ r ∧ r ≤ 205891132094649 ∧ m0 = m') := by
  generalize hQ : (fun (v : zV) (m' : zM) => ∃ r : Int, v = (1, r) ∧ 1 ≤ r ∧ r ≤ 205891132094649 ∧ m0 = m') = Q
  show zW E d 201 0 [(1, a0), (9, 0), (0, a1), (9, 0), (9, 0), (9, 0)] [] m0 Q
  refine zw_push zr_201_0 ?_
  refine zw_13 (L' := [(1, a0), (9, 0), (0, a1), (1, 1), (9, 0), (9, 0)]) zr_201_1 (Nat.le_of_ble_eq_true rfl) rfl ?_
  refine zw_push zr_201_2 ?_
  refine zw_10 (L' := [(1, a0), (9, 0), (0, a1), (1, 1), (9, 0), (0, 0)]) zr_201_3 (Nat.le_of_ble_eq_true rfl) rfl ?_
  refine zw_4 zr_201_5 rfl ?_
  refine zw_3 zr_201_7 rfl ?_
  refine zw_41_3 zr_201_8 ?_ ?_
  · intro h1
    refine zw_5 zr_201_21 rfl ?_
    refine zw_R zr_201_22 (by decide) zm_201 (v := (1, 1)) rfl ?_
    rw [← hQ]; exact ⟨_, rfl, by omega, by omega, rfl⟩
  · intro h2
    refine zw_5 zr_201_11 rfl ?_
    refine zw_5 zr_201_12 rfl ?_
    refine zw_29 zr_201_13 (by omega) ?_
    refine zw_13 (L' := [(1, a0), (9, 0), (0, a1), (1, (1 * a0)), (9, 0), (0, 0)]) zr_201_14 (Nat.le_of_ble_eq_true rfl) rfl ?_
    refine zw_15 (c := 1) (L' := [(1, a0), (9, 0), (0, a1), (1, (1 * a0)), (9, 0), (0, (0 + 1))]) zr_201_15 rfl (by decide) (by omega) rfl ?_
    refine zw_42 zr_201_18 ?_
    refine zw_4 zr_201_5 rfl ?_
    refine zw_3 zr_201_7 rfl ?_
    refine zw_41_3 zr_201_8 ?_ ?_
    · intro h3
      refine zw_5 zr_201_21 rfl ?_
      refine zw_R zr_201_22 (by decide) zm_201 (v := (1, (1 * a0))) rfl ?_
      rw [← hQ]; exact ⟨_, rfl, by omega, by omega, rfl⟩
    · intro h4
      refine zw_5 zr_201_11 rfl ?_
      refine zw_5 zr_201_12 rfl ?_
      refine zw_29p (A := 9) (B := 9) zr_201_13 (by omega) (by omega) (by omega) (by omega) (by decide) ?_
      intro x5 hx5a hx5b
      refine zw_13 (L' := [(1, a0), (9, 0), (0, a1), (1, x5), (9, 0), (0, (0 + 1))]) zr_201_14 (Nat.le_of_ble_eq_true rfl) rfl ?_
      refine zw_15 (c := 1) (L' := [(1, a0), (9, 0), (0, a1), (1, x5), (9, 0), (0, ((0 + 1) + 1))]) zr_201_15 rfl (by decide) (by omega) rfl ?_
      refine zw_42 zr_201_18 ?_
      refine zw_4 zr_201_5 rfl ?_
      refine zw_3 zr_201_7 rfl ?_
      refine zw_41_3 zr_201_8 ?_ ?_
      · intro h6
        refine zw_5 zr_201_21 rfl ?_
        refine zw_R zr_201_22 (by decide) zm_201 (v := (1, x5)) rfl ?_
        rw [← hQ]; exact ⟨_, rfl, by omega, by omega, rfl⟩
      · intro h7
        refine zw_5 zr_201_11 rfl ?_
        refine zw_5 zr_201_12 rfl ?_
        refine zw_29p (A := 81) (B := 9) zr_201_13 (by omega) (by omega) (by omega) (by omega) (by decide) ?_
        intro x8 hx8a hx8b
        refine zw_13 (L' := [(1, a0), (9, 0), (0, a1), (1, x8), (9, 0), (0, ((0 + 1) + 1))]) zr_201_14 (Nat.le_of_ble_eq_true rfl) rfl ?_
        refine zw_15 (c := 1) (L' := [(1, a0), (9, 0), (0, a1), (1, x8), (9, 0), (0, (((0 + 1) + 1) + 1))]) zr_201_15 rfl (by decide) (by omega) rfl ?_
        refine zw_42 zr_201_18 ?_
        refine zw_4 zr_201_5 rfl ?_
        refine zw_3 zr_201_7 rfl ?_
        refine zw_41_3 zr_201_8 ?_ ?_
        · intro h9
          refine zw_5 zr_201_21 rfl ?_
          refine zw_R zr_201_22 (by decide) zm_201 (v := (1, x8)) rfl ?_
          rw [← hQ]; exact ⟨_, rfl, by omega, by omega, rfl⟩
        · intro h10
          refine zw_5 zr_201_11 rfl ?_
          refine zw_5 zr_201_12 rfl ?_
          refine zw_29p (A := 729) (B := 9) zr_201_13 (by omega) (by omega) (by omega) (by omega) (by decide) ?_
          intro x11 hx11a hx11b
          refine zw_13 (L' := [(1, a0), (9, 0), (0, a1), (1, x11), (9, 0), (0, (((0 + 1) + 1) + 1))]) zr_201_14 (Nat.le_of_ble_eq_true rfl) rfl ?_
          refine zw_15 (c := 1) (L' := [(1, a0), (9, 0), (0, a1), (1, x11), (9, 0), (0, ((((0 + 1) + 1) + 1) + 1))]) zr_201_15 rfl (by decide) (by omega) rfl ?_
          refine zw_42 zr_201_18 ?_
          refine zw_4 zr_201_5 rfl ?_
          refine zw_3 zr_201_7 rfl ?_
          refine zw_41_3 zr_201_8 ?_ ?_
          · intro h12
            refine zw_5 zr_201_21 rfl ?_
            refine zw_R zr_201_22 (by decide) zm_201 (v := (1, x11)) rfl ?_
            rw [← hQ]; exact ⟨_, rfl, by omega, by omega, rfl⟩
          · intro h13
            refine zw_5 zr_201_11 rfl ?_
            refine zw_5 zr_201_12 rfl ?_
            refine zw_29p (A := 6561) (B := 9) zr_201_13 (by omega) (by omega) (by omega) (by omega) (by decide) ?_
            intro x14 hx14a hx14b
            refine zw_13 (L' := [(1, a0), (9, 0), (0, a1), (1, x14), (9, 0), (0, ((((0 + 1) + 1) + 1) + 1))]) zr_201_14 (Nat.le_of_ble_eq_true rfl) rfl ?_
            refine zw_15 (c := 1) (L' := [(1, a0), (9, 0), (0, a1), (1, x14), (9, 0), (0, (((((0 + 1) + 1) + 1) + 1) + 1))]) zr_201_15 rfl (by decide) (by omega) rfl ?_
            refine zw_42 zr_201_18 ?_
            refine zw_4 zr_201_5 rfl ?_
            refine zw_3 zr_201_7 rfl ?_
            refine zw_41_3 zr_201_8 ?_ ?_
            · intro h15
              refine zw_5 zr_201_21 rfl ?_
              refine zw_R zr_201_22 (by decide) zm_201 (v := (1, x14)) rfl ?_
              rw [← hQ]; exact ⟨_, rfl, by omega, by omega, rfl⟩
            · intro h16
              refine zw_5 zr_201_11 rfl ?_
              refine zw_5 zr_201_12 rfl ?_
              refine zw_29p (A := 59049) (B := 9) zr_201_13 (by omega) (by omega) (by omega) (by omega) (by decide) ?_
              intro x17 hx17a hx17b
              refine zw_13 (L' := [(1, a0), (9, 0), (0, a1), (1, x17), (9, 0), (0, (((((0 + 1) + 1) + 1) + 1) + 1))]) zr_201_14 (Nat.le_of_ble_eq_true rfl) rfl ?_
              refine zw_15 (c := 1) (L' := [(1, a0), (9, 0), (0, a1), (1, x17), (9, 0), (0, ((((((0 + 1) + 1) + 1) + 1) + 1) + 1))]) zr_201_15 rfl (by decide) (by omega) rfl ?_
              refine zw_42 zr_201_18 ?_
              refine zw_4 zr_201_5 rfl ?_
              refine zw_3 zr_201_7 rfl ?_
              refine zw_41_3 zr_201_8 ?_ ?_
              · intro h18
                refine zw_5 zr_201_21 rfl ?_
                refine zw_R zr_201_22 (by decide) zm_201 (v := (1, x17)) rfl ?_
                rw [← hQ]; exact ⟨_, rfl, by omega, by omega, rfl⟩
              · intro h19
                refine zw_5 zr_201_11 rfl ?_
                refine zw_5 zr_201_12 rfl ?_
                refine zw_29p (A := 531441) (B := 9) zr_201_13 (by omega) (by omega) (by omega) (by omega) (by decide) ?_
                intro x20 hx20a hx20b
                refine zw_13 (L' := [(1, a0), (9, 0), (0, a1), (1, x20), (9, 0), (0, ((((((0 + 1) + 1) + 1) + 1) + 1) + 1))]) zr_201_14 (Nat.le_of_ble_eq_true rfl) rfl ?_
                refine zw_15 (c := 1) (L' := [(1, a0), (9, 0), (0, a1), (1, x20), (9, 0), (0, (((((((0 + 1) + 1) + 1) + 1) + 1) + 1) + 1))]) zr_201_15 rfl (by decide) (by omega) rfl ?_
                refine zw_42 zr_201_18 ?_
                refine zw_4 zr_201_5 rfl ?_
                refine zw_3 zr_201_7 rfl ?_
                refine zw_41_3 zr_201_8 ?_ ?_
                · intro h21
                  refine zw_5 zr_201_21 rfl ?_
                  refine zw_R zr_201_22 (by decide) zm_201 (v := (1, x20)) rfl ?_
                  rw [← hQ]; exact ⟨_, rfl, by omega, by omega, rfl⟩
                · intro h22
                  refine zw_5 zr_201_11 rfl ?_
                  refine zw_5 zr_201_12 rfl ?_
                  refine zw_29p (A := 4782969) (B := 9) zr_201_13 (by omega) (by omega) (by omega) (by omega) (by decide) ?_
                  intro x23 hx23a hx23b
                  refine zw_13 (L' := [(1, a0), (9, 0), (0, a1), (1, x23), (9, 0), (0, (((((((0 + 1) + 1) + 1) + 1) + 1) + 1) + 1))]) zr_201_14 (Nat.le_of_ble_eq_true rfl) rfl ?_
                  refine zw_15 (c := 1) (L' := [(1, a0), (9, 0), (0, a1), (1, x23), (9, 0), (0, ((((((((0 + 1) + 1) + 1) + 1) + 1) + 1) + 1) + 1))]) zr_201_15 rfl (by decide) (by omega) rfl ?_
                  refine zw_42 zr_201_18 ?_
                  refine zw_4 zr_201_5 rfl ?_
                  refine zw_3 zr_201_7 rfl ?_
                  refine zw_41_3 zr_201_8 ?_ ?_
                  · intro h24
                    refine zw_5 zr_201_21 rfl ?_
                    refine zw_R zr_201_22 (by decide) zm_201 (v := (1, x23)) rfl ?_
                    rw [← hQ]; exact ⟨_, rfl, by omega, by omega, rfl⟩
                  · intro h25
                    refine zw_5 zr_201_11 rfl ?_
                    refine zw_5 zr_201_12 rfl ?_
                    refine zw_29p (A := 43046721) (B := 9) zr_201_13 (by omega) (by omega) (by omega) (by omega) (by decide) ?_
                    intro x26 hx26a hx26b
                    refine zw_13 (L' := [(1, a0), (9, 0), (0, a1), (1, x26), (9, 0), (0, ((((((((0 + 1) + 1) + 1) + 1) + 1) + 1) + 1) + 1))]) zr_201_14 (Nat.le_of_ble_eq_true rfl) rfl ?_
                    refine zw_15 (c := 1) (L' := [(1, a0), (9, 0), (0, a1), (1, x26), (9, 0), (0, (((((((((0 + 1) + 1) + 1) + 1) + 1) + 1) + 1) + 1) + 1))]) zr_201_15 rfl (by decide) (by omega) rfl ?_
                    refine zw_42 zr_201_18 ?_
                    refine zw_4 zr_201_5 rfl ?_
                    refine zw_3 zr_201_7 rfl ?_
                    refine zw_41_3 zr_201_8 ?_ ?_
                    · intro h27
                      refine zw_5 zr_201_21 rfl ?_
                      refine zw_R zr_201_22 (by decide) zm_201 (v := (1, x26)) rfl ?_
                      rw [← hQ]; exact ⟨_, rfl, by omega, by omega, rfl⟩
                    · intro h28
                      refine zw_5 zr_201_11 rfl ?_
                      refine zw_5 zr_201_12 rfl ?_
                      refine zw_29p (A := 387420489) (B := 9) zr_201_13 (by omega) (by omega) (by omega) (by omega) (by decide) ?_
                      intro x29 hx29a hx29b
                      refine zw_13 (L' := [(1, a0), (9, 0), (0, a1), (1, x29), (9, 0), (0, (((((((((0 + 1) + 1) + 1) + 1) + 1) + 1) + 1) + 1) + 1))]) zr_201_14 (Nat.le_of_ble_eq_true rfl) rfl ?_
                      refine zw_15 (c := 1) (L' := [(1, a0), (9, 0), (0, a1), (1, x29), (9, 0), (0, ((((((((((0 + 1) + 1) + 1) + 1) + 1) + 1) + 1) + 1) + 1) + 1))]) zr_201_15 rfl (by decide) (by omega) rfl ?_
                      refine zw_42 zr_201_18 ?_
                      refine zw_4 zr_201_5 rfl ?_
                      refine zw_3 zr_201_7 rfl ?_
                      refine zw_41_3 zr_201_8 ?_ ?_
                      · intro h30
                        refine zw_5 zr_201_21 rfl ?_
                        refine zw_R zr_201_22 (by decide) zm_201 (v := (1, x29)) rfl ?_
                        rw [← hQ]; exact ⟨_, rfl, by omega, by omega, rfl⟩
                      · intro h31
                        refine zw_5 zr_201_11 rfl ?_
                        refine zw_5 zr_201_12 rfl ?_
                        refine zw_29p (A := 3486784401) (B := 9) zr_201_13 (by omega) (by omega) (by omega) (by omega) (by decide) ?_
                        intro x32 hx32a hx32b
                        refine zw_13 (L' := [(1, a0), (9, 0), (0, a1), (1, x32), (9, 0), (0, ((((((((((0 + 1) + 1) + 1) + 1) + 1) + 1) + 1) + 1) + 1) + 1))]) zr_201_14 (Nat.le_of_ble_eq_true rfl) rfl ?_
                        refine zw_15 (c := 1) (L' := [(1, a0), (9, 0), (0, a1), (1, x32), (9, 0), (0, (((((((((((0 + 1) + 1) + 1) + 1) + 1) + 1) + 1) + 1) + 1) + 1) + 1))]) zr_201_15 rfl (by decide) (by omega) rfl ?_
                        refine zw_42 zr_201_18 ?_
                        refine zw_4 zr_201_5 rfl ?_
                        refine zw_3 zr_201_7 rfl ?_
                        refine zw_41_3 zr_201_8 ?_ ?_
                        · intro h33
                          refine zw_5 zr_201_21 rfl ?_
                          refine zw_R zr_201_22 (by decide) zm_201 (v := (1, x32)) rfl ?_
                          rw [← hQ]; exact ⟨_, rfl, by omega, by omega, rfl⟩
                        · intro h34
                          refine zw_5 zr_201_11 rfl ?_
                          refine zw_5 zr_201_12 rfl ?_
                          refine zw_29p (A := 31381059609) (B := 9) zr_201_13 (by omega) (by omega) (by omega) (by omega) (by decide) ?_
                          intro x35 hx35a hx35b
                          refine zw_13 (L' := [(1, a0), (9, 0), (0, a1), (1, x35), (9, 0), (0, (((((((((((0 + 1) + 1) + 1) + 1) + 1) + 1) + 1) + 1) + 1) + 1) + 1))]) zr_201_14 (Nat.le_of_ble_eq_true rfl) rfl ?_
                          refine zw_15 (c := 1) (L' := [(1, a0), (9, 0), (0, a1), (1, x35), (9, 0), (0, ((((((((((((0 + 1) + 1) + 1) + 1) + 1) + 1) + 1) + 1) + 1) + 1) + 1) + 1))]) zr_201_15 rfl (by decide) (by omega) rfl ?_
                          refine zw_42 zr_201_18 ?_
                          refine zw_4 zr_201_5 rfl ?_
                          refine zw_3 zr_201_7 rfl ?_
                          refine zw_41_3 zr_201_8 ?_ ?_
                          · intro h36
                            refine zw_5 zr_201_21 rfl ?_
                            refine zw_R zr_201_22 (by decide) zm_201 (v := (1, x35)) rfl ?_
                            rw [← hQ]; exact ⟨_, rfl, by omega, by omega, rfl⟩
                          · intro h37
                            refine zw_5 zr_201_11 rfl ?_
                            refine zw_5 zr_201_12 rfl ?_
                            refine zw_29p (A := 282429536481) (B := 9) zr_201_13 (by omega) (by omega) (by omega) (by omega) (by decide) ?_
                            intro x38 hx38a hx38b
                            refine zw_13 (L' := [(1, a0), (9, 0), (0, a1), (1, x38), (9, 0), (0, ((((((((((((0 + 1) + 1) + 1) + 1) + 1) + 1) + 1) + 1) + 1) + 1) + 1) + 1))]) zr_201_14 (Nat.le_of_ble_eq_true rfl) rfl ?_
                            refine zw_15 (c := 1) (L' := [(1, a0), (9, 0), (0, a1), (1, x38), (9, 0), (0, (((((((((((((0 + 1) + 1) + 1) + 1) + 1) + 1) + 1) + 1) + 1) + 1) + 1) + 1) + 1))]) zr_201_15 rfl (by decide) (by omega) rfl ?_
                            refine zw_42 zr_201_18 ?_
                            refine zw_4 zr_201_5 rfl ?_
                            refine zw_3 zr_201_7 rfl ?_
                            refine zw_41_3 zr_201_8 ?_ ?_
                            · intro h39
                              refine zw_5 zr_201_21 rfl ?_
                              refine zw_R zr_201_22 (by decide) zm_201 (v := (1, x38)) rfl ?_
                              rw [← hQ]; exact ⟨_, rfl, by omega, by omega, rfl⟩
                            · intro h40
                              refine zw_5 zr_201_11 rfl ?_
                              refine zw_5 zr_201_12 rfl ?_
                              refine zw_29p (A := 2541865828329) (B := 9) zr_201_13 (by omega) (by omega) (by omega) (by omega) (by decide) ?_
                              intro x41 hx41a hx41b
                              refine zw_13 (L' := [(1, a0), (9, 0), (0, a1), (1, x41), (9, 0), (0, (((((((((((((0 + 1) + 1) + 1) + 1) + 1) + 1) + 1) + 1) + 1) + 1) + 1) + 1) + 1))]) zr_201_14 (Nat.le_of_ble_eq_true rfl) rfl ?_
                              refine zw_15 (c := 1) (L' := [(1, a0), (9, 0), (0, a1), (1, x41), (9, 0), (0, ((((((((((((((0 + 1) + 1) + 1) + 1) + 1) + 1) + 1) + 1) + 1) + 1) + 1) + 1) + 1) + 1))]) zr_201_15 rfl (by decide) (by omega) rfl ?_
                              refine zw_42 zr_201_18 ?_
                              refine zw_4 zr_201_5 rfl ?_
                              refine zw_3 zr_201_7 rfl ?_
                              refine zw_41_3 zr_201_8 ?_ ?_
                              · intro h42
                                refine zw_5 zr_201_21 rfl ?_
                                refine zw_R zr_201_22 (by decide) zm_201 (v := (1, x41)) rfl ?_
                                rw [← hQ]; exact ⟨_, rfl, by omega, by omega, rfl⟩
                              · intro h43
                                refine zw_5 zr_201_11 rfl ?_
                                refine zw_5 zr_201_12 rfl ?_
                                refine zw_29p (A := 22876792454961) (B := 9) zr_201_13 (by omega) (by omega) (by omega) (by omega) (by decide) ?_
                                intro x44 hx44a hx44b
                                refine zw_13 (L' := [(1, a0), (9, 0), (0, a1), (1, x44), (9, 0), (0, ((((((((((((((0 + 1) + 1) + 1) + 1) + 1) + 1) + 1) + 1) + 1) + 1) + 1) + 1) + 1) + 1))]) zr_201_14 (Nat.le_of_ble_eq_true rfl) rfl ?_
                                refine zw_15 (c := 1) (L' := [(1, a0), (9, 0), (0, a1), (1, x44), (9, 0), (0, (((((((((((((((0 + 1) + 1) + 1) + 1) + 1) + 1) + 1) + 1) + 1) + 1) + 1) + 1) + 1) + 1) + 1))]) zr_201_15 rfl (by decide) (by omega) rfl ?_
                                refine zw_42 zr_201_18 ?_
                                refine zw_4 zr_201_5 rfl ?_
                                refine zw_3 zr_201_7 rfl ?_
                                refine zw_41_3 zr_201_8 ?_ ?_
                                · intro h45
                                  refine zw_5 zr_201_21 rfl ?_
                                  refine zw_R zr_201_22 (by decide) zm_201 (v := (1, x44)) rfl ?_
                                  rw [← hQ]; exact ⟨_, rfl, by omega, by omega, rfl⟩
                                · intro h46; omega

abbrev W_202 : List (Nat × Nat) := [(69, 3), (69, 4)]
set_option maxHeartbeats 8000000 in
theorem th_202 {E : zE} {d : Nat} {m0 : zM} {a0 : Int} {a1 : Int} {a2 : Int} {a3 : Int} (hd : 4 ≤ d) (hI0 : zInv m0) (ha0 : (-2147483648) ≤ a0 ∧ a0 ≤ 2147483647) (ha1 : (-2147483648) ≤ a1 ∧ a1 ≤ 2147483647) (ha2 : (-2147483648) ≤ a2 ∧ a2 ≤ 2147483647) (ha3 : (-2147483648) ≤ a3 ∧ a3 ≤ 2147483647) : zC E d 202 [(2, 69), (0, a0), (0, a1), (0, a2), (0, a3)] m0 (fun v m' => ∃ r : Int, v = (0, r) ∧ (-3) ≤ r ∧ r ≤ 1 ∧ zInv m' ∧ zFr W_202 m0 m') := by
  have hF0 : zFr W_202 m0 m0 := zFr.rfl
  generalize hQ : (fun (v : zV) (m' : zM) => ∃ r : Int, v = (0, r) ∧ (-3) ≤ r ∧ r ≤ 1 ∧ zInv m' ∧ zFr W_202 m0 m') = Q
  show zW E d 202 0 [(2, 69), (0, a0), (0, a1), (0, a2), (0, a3), (9, 0), (9, 0), (9, 0), (9, 0), (9, 0), (9, 0), (9, 0)] [] m0 Q
  refine zw_7 zr_202_0 rfl ?_
  refine zw_3 zr_202_1 rfl ?_
  refine zw_C zr_202_2 (Or.inl rfl) zm_143 rfl rfl ⟨Nat.le_of_ble_eq_true rfl, Nat.le_of_ble_eq_true rfl, Nat.le_of_ble_eq_true rfl, rfl, by decide⟩ (by omega) (P := (fun v m' => zW E (d) 202 5 [(2, 69), (0, a0), (0, a1), (0, a2), (0, a3), (9, 0), (9, 0), (9, 0), (9, 0), (9, 0), (9, 0), (9, 0)] (if v.1 = 9 then [] else v :: []) m' Q)) ?_ (fun _ _ h => h)
  generalize hQ1 : (fun v m' => zW E (d) 202 5 [(2, 69), (0, a0), (0, a1), (0, a2), (0, a3), (9, 0), (9, 0), (9, 0), (9, 0), (9, 0), (9, 0), (9, 0)] (if v.1 = 9 then [] else v :: []) m' Q) = Q1
  show zW E (d - 1) 143 0 [(2, 69), (0, a0)] [] m0 Q1
  refine zw_3 zr_143_0 rfl ?_
  refine zw_36 zr_143_1 ?_
  refine zw_push zr_143_2 ?_
  refine zw_7 zr_143_3 rfl ?_
  refine zw_C zr_143_4 (Or.inl rfl) zm_141 rfl rfl ⟨Nat.le_of_ble_eq_true rfl, Nat.le_of_ble_eq_true rfl, Nat.le_of_ble_eq_true rfl, rfl, by decide⟩ (by omega) (P := (fun v m' => zW E (d - 1) 143 7 [(2, 69), (0, a0)] (if v.1 = 9 then [(1, 0), (1, a0)] else v :: [(1, 0), (1, a0)]) m' Q1)) ?_ (fun _ _ h => h)
  generalize hQ2 : (fun v m' => zW E (d - 1) 143 7 [(2, 69), (0, a0)] (if v.1 = 9 then [(1, 0), (1, a0)] else v :: [(1, 0), (1, a0)]) m' Q1) = Q2
  show zW E (d - 1 - 1) 141 0 [(2, 69)] [] m0 Q2
  refine zw_7 zr_141_0 rfl ?_
  refine zw_46r (s := 70) zr_141_1 rfl rfl rfl rfl ?_
  refine zw_push zr_141_4 ?_
  obtain ⟨f1, ef1⟩ : ∃ v, m0 70 822 = v := ⟨_, rfl⟩
  have bf1 : 0 ≤ m0 70 822 ∧ m0 70 822 ≤ 10 := ib_70_players hI0 (by omega)
  rw [ef1] at bf1
  refine zw_48k (c := 70) (len := 826) zr_141_7 rfl rfl (by omega) (by omega) (show (822 : Int).toNat = 822 by omega) ef1 ?_
  refine zw_R zr_141_8 (by decide) zm_141 (v := (0, f1)) rfl ?_
  rw [← hQ2]
  show zW E (d - 1) 143 7 [(2, 69), (0, a0)] [(0, f1), (1, 0), (1, a0)] m0 Q1
  refine zw_push zr_143_7 ?_
  refine zw_17 zr_143_8 (by omega) ?_
  refine zw_36 zr_143_9 ?_
  refine zw_C zr_143_10 (Or.inr rfl) zm_140 rfl rfl ⟨Nat.le_of_ble_eq_true rfl, Nat.le_of_ble_eq_true rfl, Nat.le_of_ble_eq_true rfl, rfl, by decide⟩ (by omega) (P := (fun v m' => zW E (d - 1) 143 13 [(2, 69), (0, a0)] (if v.1 = 9 then [] else v :: []) m' Q1)) ?_ (fun _ _ h => h)
  generalize hQ2 : (fun v m' => zW E (d - 1) 143 13 [(2, 69), (0, a0)] (if v.1 = 9 then [] else v :: []) m' Q1) = Q2
  show zW E (d - 1 - 1) 140 0 [(1, a0), (9, 0), (1, 0), (9, 0), (1, (f1 - 1)), (9, 0)] [] m0 Q2
  refine zw_5 zr_140_0 rfl ?_
  refine zw_5 zr_140_1 rfl ?_
  refine zw_39_0 zr_140_2 zr_140_3 ?_ ?_
  · intro h2
    refine zw_push zr_140_17 ?_
    refine zw_R zr_140_18 (by decide) zm_140 (v := (0, 0)) (zRetB (by omega)) ?_
    rw [← hQ2]
    show zW E (d - 1) 143 13 [(2, 69), (0, a0)] [(0, 0)] m0 Q1
    refine zw_R zr_143_13 (by decide) zm_143 (v := (0, 0)) (zRetB (by omega)) ?_
    rw [← hQ1]
    show zW E (d) 202 5 [(2, 69), (0, a0), (0, a1), (0, a2), (0, a3), (9, 0), (9, 0), (9, 0), (9, 0), (9, 0), (9, 0), (9, 0)] [(0, 0)] m0 Q
    refine zw_40_1 zr_202_5 ?_ ?_
    · intro h3
      refine zw_push zr_202_50 ?_
      refine zw_R zr_202_52 (by decide) zm_202 (v := (0, (-2))) rfl ?_
      rw [← hQ]; exact ⟨_, rfl, by omega, by omega, hI0, hF0⟩
    · intro h4; omega
  · intro h5
    refine zw_5 zr_140_6 rfl ?_
    refine zw_6 zr_140_7 rfl ?_
    refine zw_39_2 zr_140_9 zr_140_10 ?_ ?_
    · intro h6
      refine zw_push zr_140_17 ?_
      refine zw_R zr_140_18 (by decide) zm_140 (v := (0, 0)) (zRetB (by omega)) ?_
      rw [← hQ2]
      show zW E (d - 1) 143 13 [(2, 69), (0, a0)] [(0, 0)] m0 Q1
      refine zw_R zr_143_13 (by decide) zm_143 (v := (0, 0)) (zRetB (by omega)) ?_
      rw [← hQ1]
      show zW E (d) 202 5 [(2, 69), (0, a0), (0, a1), (0, a2), (0, a3), (9, 0), (9, 0), (9, 0), (9, 0), (9, 0), (9, 0), (9, 0)] [(0, 0)] m0 Q
      refine zw_40_1 zr_202_5 ?_ ?_
      · intro h7
        refine zw_push zr_202_50 ?_
        refine zw_R zr_202_52 (by decide) zm_202 (v := (0, (-2))) rfl ?_
        rw [← hQ]; exact ⟨_, rfl, by omega, by omega, hI0, hF0⟩
      · intro h8; omega
    · intro h9
      refine zw_push zr_140_13 ?_
      refine zw_42 zr_140_14 ?_
      refine zw_R zr_140_18 (by decide) zm_140 (v := (0, 1)) (zRetB (by omega)) ?_
      rw [← hQ2]
      show zW E (d - 1) 143 13 [(2, 69), (0, a0)] [(0, 1)] m0 Q1
      refine zw_R zr_143_13 (by decide) zm_143 (v := (0, 1)) (zRetB (by omega)) ?_
      rw [← hQ1]
      show zW E (d) 202 5 [(2, 69), (0, a0), (0, a1), (0, a2), (0, a3), (9, 0), (9, 0), (9, 0), (9, 0), (9, 0), (9, 0), (9, 0)] [(0, 1)] m0 Q
      refine zw_40_1 zr_202_5 ?_ ?_
      · intro h10; omega
      · intro h11
        refine zw_7 zr_202_8 rfl ?_
        refine zw_3 zr_202_9 rfl ?_
        refine zw_C zr_202_10 (Or.inl rfl) zm_143 rfl rfl ⟨Nat.le_of_ble_eq_true rfl, Nat.le_of_ble_eq_true rfl, Nat.le_of_ble_eq_true rfl, rfl, by decide⟩ (by omega) (P := (fun v m' => zW E (d) 202 13 [(2, 69), (0, a0), (0, a1), (0, a2), (0, a3), (9, 0), (9, 0), (9, 0), (9, 0), (9, 0), (9, 0), (9, 0)] (if v.1 = 9 then [] else v :: []) m' Q)) ?_ (fun _ _ h => h)
        generalize hQ1 : (fun v m' => zW E (d) 202 13 [(2, 69), (0, a0), (0, a1), (0, a2), (0, a3), (9, 0), (9, 0), (9, 0), (9, 0), (9, 0), (9, 0), (9, 0)] (if v.1 = 9 then [] else v :: []) m' Q) = Q1
        show zW E (d - 1) 143 0 [(2, 69), (0, a1)] [] m0 Q1
        refine zw_3 zr_143_0 rfl ?_
        refine zw_36 zr_143_1 ?_
        refine zw_push zr_143_2 ?_
        refine zw_7 zr_143_3 rfl ?_
        refine zw_C zr_143_4 (Or.inl rfl) zm_141 rfl rfl ⟨Nat.le_of_ble_eq_true rfl, Nat.le_of_ble_eq_true rfl, Nat.le_of_ble_eq_true rfl, rfl, by decide⟩ (by omega) (P := (fun v m' => zW E (d - 1) 143 7 [(2, 69), (0, a1)] (if v.1 = 9 then [(1, 0), (1, a1)] else v :: [(1, 0), (1, a1)]) m' Q1)) ?_ (fun _ _ h => h)
        generalize hQ2 : (fun v m' => zW E (d - 1) 143 7 [(2, 69), (0, a1)] (if v.1 = 9 then [(1, 0), (1, a1)] else v :: [(1, 0), (1, a1)]) m' Q1) = Q2
        show zW E (d - 1 - 1) 141 0 [(2, 69)] [] m0 Q2
        refine zw_7 zr_141_0 rfl ?_
        refine zw_46r (s := 70) zr_141_1 rfl rfl rfl rfl ?_
        refine zw_push zr_141_4 ?_
        refine zw_48k (c := 70) (len := 826) zr_141_7 rfl rfl (by omega) (by omega) (show (822 : Int).toNat = 822 by omega) ef1 ?_
        refine zw_R zr_141_8 (by decide) zm_141 (v := (0, f1)) rfl ?_
        rw [← hQ2]
        show zW E (d - 1) 143 7 [(2, 69), (0, a1)] [(0, f1), (1, 0), (1, a1)] m0 Q1
        refine zw_push zr_143_7 ?_
        refine zw_17 zr_143_8 (by omega) ?_
        refine zw_36 zr_143_9 ?_
        refine zw_C zr_143_10 (Or.inr rfl) zm_140 rfl rfl ⟨Nat.le_of_ble_eq_true rfl, Nat.le_of_ble_eq_true rfl, Nat.le_of_ble_eq_true rfl, rfl, by decide⟩ (by omega) (P := (fun v m' => zW E (d - 1) 143 13 [(2, 69), (0, a1)] (if v.1 = 9 then [] else v :: []) m' Q1)) ?_ (fun _ _ h => h)
        generalize hQ2 : (fun v m' => zW E (d - 1) 143 13 [(2, 69), (0, a1)] (if v.1 = 9 then [] else v :: []) m' Q1) = Q2
        show zW E (d - 1 - 1) 140 0 [(1, a1), (9, 0), (1, 0), (9, 0), (1, (f1 - 1)), (9, 0)] [] m0 Q2
        refine zw_5 zr_140_0 rfl ?_
        refine zw_5 zr_140_1 rfl ?_
        refine zw_39_0 zr_140_2 zr_140_3 ?_ ?_
        · intro h12
          refine zw_push zr_140_17 ?_
          refine zw_R zr_140_18 (by decide) zm_140 (v := (0, 0)) (zRetB (by omega)) ?_
          rw [← hQ2]
          show zW E (d - 1) 143 13 [(2, 69), (0, a1)] [(0, 0)] m0 Q1
          refine zw_R zr_143_13 (by decide) zm_143 (v := (0, 0)) (zRetB (by omega)) ?_
          rw [← hQ1]
          show zW E (d) 202 13 [(2, 69), (0, a0), (0, a1), (0, a2), (0, a3), (9, 0), (9, 0), (9, 0), (9, 0), (9, 0), (9, 0), (9, 0)] [(0, 0)] m0 Q
          refine zw_40_1 zr_202_13 ?_ ?_
          · intro h13
            refine zw_push zr_202_50 ?_
            refine zw_R zr_202_52 (by decide) zm_202 (v := (0, (-2))) rfl ?_
            rw [← hQ]; exact ⟨_, rfl, by omega, by omega, hI0, hF0⟩
          · intro h14; omega
        · intro h15
          refine zw_5 zr_140_6 rfl ?_
          refine zw_6 zr_140_7 rfl ?_
          refine zw_39_2 zr_140_9 zr_140_10 ?_ ?_
          · intro h16
            refine zw_push zr_140_17 ?_
            refine zw_R zr_140_18 (by decide) zm_140 (v := (0, 0)) (zRetB (by omega)) ?_
            rw [← hQ2]
            show zW E (d - 1) 143 13 [(2, 69), (0, a1)] [(0, 0)] m0 Q1
            refine zw_R zr_143_13 (by decide) zm_143 (v := (0, 0)) (zRetB (by omega)) ?_
            rw [← hQ1]
            show zW E (d) 202 13 [(2, 69), (0, a0), (0, a1), (0, a2), (0, a3), (9, 0), (9, 0), (9, 0), (9, 0), (9, 0), (9, 0), (9, 0)] [(0, 0)] m0 Q
            refine zw_40_1 zr_202_13 ?_ ?_
            · intro h17
              refine zw_push zr_202_50 ?_
              refine zw_R zr_202_52 (by decide) zm_202 (v := (0, (-2))) rfl ?_
              rw [← hQ]; exact ⟨_, rfl, by omega, by omega, hI0, hF0⟩
            · intro h18; omega
          · intro h19
            refine zw_push zr_140_13 ?_
            refine zw_42 zr_140_14 ?_
            refine zw_R zr_140_18 (by decide) zm_140 (v := (0, 1)) (zRetB (by omega)) ?_
            rw [← hQ2]
            show zW E (d - 1) 143 13 [(2, 69), (0, a1)] [(0, 1)] m0 Q1
            refine zw_R zr_143_13 (by decide) zm_143 (v := (0, 1)) (zRetB (by omega)) ?_
            rw [← hQ1]
            show zW E (d) 202 13 [(2, 69), (0, a0), (0, a1), (0, a2), (0, a3), (9, 0), (9, 0), (9, 0), (9, 0), (9, 0), (9, 0), (9, 0)] [(0, 1)] m0 Q
            refine zw_40_1 zr_202_13 ?_ ?_
            · intro h20; omega
            · intro h21
              refine zw_3 zr_202_16 rfl ?_
              refine zw_3 zr_202_17 rfl ?_
              refine zw_41_1 zr_202_18 ?_ ?_
              · intro h22
                refine zw_push zr_202_50 ?_
                refine zw_R zr_202_52 (by decide) zm_202 (v := (0, (-2))) rfl ?_
                rw [← hQ]; exact ⟨_, rfl, by omega, by omega, hI0, hF0⟩
              · intro h23
                refine zw_4 zr_202_21 rfl ?_
                refine zw_36 zr_202_23 ?_
                refine zw_push zr_202_24 ?_
                refine zw_push zr_202_27 ?_
                refine zw_C zr_202_30 (Or.inr rfl) zm_140 rfl rfl ⟨Nat.le_of_ble_eq_true rfl, Nat.le_of_ble_eq_true rfl, Nat.le_of_ble_eq_true rfl, rfl, by decide⟩ (by omega) (P := (fun v m' => zW E (d) 202 33 [(2, 69), (0, a0), (0, a1), (0, a2), (0, a3), (9, 0), (9, 0), (9, 0), (9, 0), (9, 0), (9, 0), (9, 0)] (if v.1 = 9 then [] else v :: []) m' Q)) ?_ (fun _ _ h => h)
                generalize hQ1 : (fun v m' => zW E (d) 202 33 [(2, 69), (0, a0), (0, a1), (0, a2), (0, a3), (9, 0), (9, 0), (9, 0), (9, 0), (9, 0), (9, 0), (9, 0)] (if v.1 = 9 then [] else v :: []) m' Q) = Q1
                show zW E (d - 1) 140 0 [(1, a3), (9, 0), (1, 2), (9, 0), (1, 9), (9, 0)] [] m0 Q1
                refine zw_5 zr_140_0 rfl ?_
                refine zw_5 zr_140_1 rfl ?_
                refine zw_39_0 zr_140_2 zr_140_3 ?_ ?_
                · intro h24
                  refine zw_push zr_140_17 ?_
                  refine zw_R zr_140_18 (by decide) zm_140 (v := (0, 0)) (zRetB (by omega)) ?_
                  rw [← hQ1]
                  show zW E (d) 202 33 [(2, 69), (0, a0), (0, a1), (0, a2), (0, a3), (9, 0), (9, 0), (9, 0), (9, 0), (9, 0), (9, 0), (9, 0)] [(0, 0)] m0 Q
                  refine zw_40_1 zr_202_33 ?_ ?_
                  · intro h25
                    refine zw_push zr_202_50 ?_
                    refine zw_R zr_202_52 (by decide) zm_202 (v := (0, (-2))) rfl ?_
                    rw [← hQ]; exact ⟨_, rfl, by omega, by omega, hI0, hF0⟩
                  · intro h26; omega
                · intro h27
                  refine zw_5 zr_140_6 rfl ?_
                  refine zw_6 zr_140_7 rfl ?_
                  refine zw_39_2 zr_140_9 zr_140_10 ?_ ?_
                  · intro h28
                    refine zw_push zr_140_17 ?_
                    refine zw_R zr_140_18 (by decide) zm_140 (v := (0, 0)) (zRetB (by omega)) ?_
                    rw [← hQ1]
                    show zW E (d) 202 33 [(2, 69), (0, a0), (0, a1), (0, a2), (0, a3), (9, 0), (9, 0), (9, 0), (9, 0), (9, 0), (9, 0), (9, 0)] [(0, 0)] m0 Q
                    refine zw_40_1 zr_202_33 ?_ ?_
                    · intro h29
                      refine zw_push zr_202_50 ?_
                      refine zw_R zr_202_52 (by decide) zm_202 (v := (0, (-2))) rfl ?_
                      rw [← hQ]; exact ⟨_, rfl, by omega, by omega, hI0, hF0⟩
                    · intro h30; omega
                  · intro h31
                    refine zw_push zr_140_13 ?_
                    refine zw_42 zr_140_14 ?_
                    refine zw_R zr_140_18 (by decide) zm_140 (v := (0, 1)) (zRetB (by omega)) ?_
                    rw [← hQ1]
                    show zW E (d) 202 33 [(2, 69), (0, a0), (0, a1), (0, a2), (0, a3), (9, 0), (9, 0), (9, 0), (9, 0), (9, 0), (9, 0), (9, 0)] [(0, 1)] m0 Q
                    refine zw_40_1 zr_202_33 ?_ ?_
                    · intro h32; omega
                    · intro h33
                      refine zw_3 zr_202_36 rfl ?_
                      refine zw_36 zr_202_37 ?_
                      refine zw_push zr_202_38 ?_
                      refine zw_4 zr_202_39 rfl ?_
                      refine zw_push zr_202_41 ?_
                      refine zw_17 zr_202_42 (by omega) ?_
                      refine zw_36 zr_202_43 ?_
                      refine zw_C zr_202_44 (Or.inr rfl) zm_140 rfl rfl ⟨Nat.le_of_ble_eq_true rfl, Nat.le_of_ble_eq_true rfl, Nat.le_of_ble_eq_true rfl, rfl, by decide⟩ (by omega) (P := (fun v m' => zW E (d) 202 47 [(2, 69), (0, a0), (0, a1), (0, a2), (0, a3), (9, 0), (9, 0), (9, 0), (9, 0), (9, 0), (9, 0), (9, 0)] (if v.1 = 9 then [] else v :: []) m' Q)) ?_ (fun _ _ h => h)
                      generalize hQ1 : (fun v m' => zW E (d) 202 47 [(2, 69), (0, a0), (0, a1), (0, a2), (0, a3), (9, 0), (9, 0), (9, 0), (9, 0), (9, 0), (9, 0), (9, 0)] (if v.1 = 9 then [] else v :: []) m' Q) = Q1
                      show zW E (d - 1) 140 0 [(1, a2), (9, 0), (1, 1), (9, 0), (1, (a3 - 1)), (9, 0)] [] m0 Q1
                      refine zw_5 zr_140_0 rfl ?_
                      refine zw_5 zr_140_1 rfl ?_
                      refine zw_39_0 zr_140_2 zr_140_3 ?_ ?_
                      · intro h34
                        refine zw_push zr_140_17 ?_
                        refine zw_R zr_140_18 (by decide) zm_140 (v := (0, 0)) (zRetB (by omega)) ?_
                        rw [← hQ1]
                        show zW E (d) 202 47 [(2, 69), (0, a0), (0, a1), (0, a2), (0, a3), (9, 0), (9, 0), (9, 0), (9, 0), (9, 0), (9, 0), (9, 0)] [(0, 0)] m0 Q
                        refine zw_40_4 zr_202_47 ?_ ?_
                        · intro h35; omega
                        · intro h36
                          refine zw_push zr_202_50 ?_
                          refine zw_R zr_202_52 (by decide) zm_202 (v := (0, (-2))) rfl ?_
                          rw [← hQ]; exact ⟨_, rfl, by omega, by omega, hI0, hF0⟩
                      · intro h37
                        refine zw_5 zr_140_6 rfl ?_
                        refine zw_6 zr_140_7 rfl ?_
                        refine zw_39_2 zr_140_9 zr_140_10 ?_ ?_
                        · intro h38
                          refine zw_push zr_140_17 ?_
                          refine zw_R zr_140_18 (by decide) zm_140 (v := (0, 0)) (zRetB (by omega)) ?_
                          rw [← hQ1]
                          show zW E (d) 202 47 [(2, 69), (0, a0), (0, a1), (0, a2), (0, a3), (9, 0), (9, 0), (9, 0), (9, 0), (9, 0), (9, 0), (9, 0)] [(0, 0)] m0 Q
                          refine zw_40_4 zr_202_47 ?_ ?_
                          · intro h39; omega
                          · intro h40
                            refine zw_push zr_202_50 ?_
                            refine zw_R zr_202_52 (by decide) zm_202 (v := (0, (-2))) rfl ?_
                            rw [← hQ]; exact ⟨_, rfl, by omega, by omega, hI0, hF0⟩
                        · intro h41
                          refine zw_push zr_140_13 ?_
                          refine zw_42 zr_140_14 ?_
                          refine zw_R zr_140_18 (by decide) zm_140 (v := (0, 1)) (zRetB (by omega)) ?_
                          rw [← hQ1]
                          show zW E (d) 202 47 [(2, 69), (0, a0), (0, a1), (0, a2), (0, a3), (9, 0), (9, 0), (9, 0), (9, 0), (9, 0), (9, 0), (9, 0)] [(0, 1)] m0 Q
                          refine zw_40_4 zr_202_47 ?_ ?_
                          · intro h42
                            refine zw_7 zr_202_53 rfl ?_
                            refine zw_3 zr_202_54 rfl ?_
                            refine zw_3 zr_202_55 rfl ?_
                            refine zw_push zr_202_56 ?_
                            refine zw_C zr_202_57 (Or.inl rfl) zm_200 rfl rfl ⟨Nat.le_of_ble_eq_true rfl, Nat.le_of_ble_eq_true rfl, Nat.le_of_ble_eq_true rfl, rfl, by decide⟩ (by omega) (th_200 (d := d - 1) (by omega) hI0 (a0 := a0) (a1 := a1) (a2 := 0)   (by omega) (by omega) (by omega)) ?_
                            rintro _ _ ⟨r43, rfl, hr43a, hr43b, rfl⟩
                            show zW E (d) 202 60 [(2, 69), (0, a0), (0, a1), (0, a2), (0, a3), (9, 0), (9, 0), (9, 0), (9, 0), (9, 0), (9, 0), (9, 0)] [(0, r43)] m0 Q
                            refine zw_10 (L' := [(2, 69), (0, a0), (0, a1), (0, a2), (0, a3), (0, r43), (9, 0), (9, 0), (9, 0), (9, 0), (9, 0), (9, 0)]) zr_202_60 (Nat.le_of_ble_eq_true rfl) rfl ?_
                            refine zw_7 zr_202_62 rfl ?_
                            refine zw_3 zr_202_63 rfl ?_
                            refine zw_3 zr_202_64 rfl ?_
                            refine zw_push zr_202_65 ?_
                            refine zw_C zr_202_66 (Or.inl rfl) zm_200 rfl rfl ⟨Nat.le_of_ble_eq_true rfl, Nat.le_of_ble_eq_true rfl, Nat.le_of_ble_eq_true rfl, rfl, by decide⟩ (by omega) (th_200 (d := d - 1) (by omega) hI0 (a0 := a0) (a1 := a1) (a2 := 1)   (by omega) (by omega) (by omega)) ?_
                            rintro _ _ ⟨r44, rfl, hr44a, hr44b, rfl⟩
                            show zW E (d) 202 69 [(2, 69), (0, a0), (0, a1), (0, a2), (0, a3), (0, r43), (9, 0), (9, 0), (9, 0), (9, 0), (9, 0), (9, 0)] [(0, r44)] m0 Q
                            refine zw_10 (L' := [(2, 69), (0, a0), (0, a1), (0, a2), (0, a3), (0, r43), (0, r44), (9, 0), (9, 0), (9, 0), (9, 0), (9, 0)]) zr_202_69 (Nat.le_of_ble_eq_true rfl) rfl ?_
                            refine zw_4 zr_202_71 rfl ?_
                            refine zw_36 zr_202_73 ?_
                            refine zw_push zr_202_74 ?_
                            refine zw_push zr_202_75 ?_
                            refine zw_C zr_202_78 (Or.inr rfl) zm_140 rfl rfl ⟨Nat.le_of_ble_eq_true rfl, Nat.le_of_ble_eq_true rfl, Nat.le_of_ble_eq_true rfl, rfl, by decide⟩ (by omega) (P := (fun v m' => zW E (d) 202 81 [(2, 69), (0, a0), (0, a1), (0, a2), (0, a3), (0, r43), (0, r44), (9, 0), (9, 0), (9, 0), (9, 0), (9, 0)] (if v.1 = 9 then [] else v :: []) m' Q)) ?_ (fun _ _ h => h)
                            generalize hQ1 : (fun v m' => zW E (d) 202 81 [(2, 69), (0, a0), (0, a1), (0, a2), (0, a3), (0, r43), (0, r44), (9, 0), (9, 0), (9, 0), (9, 0), (9, 0)] (if v.1 = 9 then [] else v :: []) m' Q) = Q1
                            show zW E (d - 1) 140 0 [(1, r43), (9, 0), (1, 1), (9, 0), (1, 15), (9, 0)] [] m0 Q1
                            refine zw_5 zr_140_0 rfl ?_
                            refine zw_5 zr_140_1 rfl ?_
                            refine zw_39_0 zr_140_2 zr_140_3 ?_ ?_
                            · intro h45
                              refine zw_push zr_140_17 ?_
                              refine zw_R zr_140_18 (by decide) zm_140 (v := (0, 0)) (zRetB (by omega)) ?_
                              rw [← hQ1]
                              show zW E (d) 202 81 [(2, 69), (0, a0), (0, a1), (0, a2), (0, a3), (0, r43), (0, r44), (9, 0), (9, 0), (9, 0), (9, 0), (9, 0)] [(0, 0)] m0 Q
                              refine zw_40_4 zr_202_81 ?_ ?_
                              · intro h46; omega
                              · intro h47
                                refine zw_push zr_202_84 ?_
                                refine zw_R zr_202_86 (by decide) zm_202 (v := (0, (-3))) rfl ?_
                                rw [← hQ]; exact ⟨_, rfl, by omega, by omega, hI0, hF0⟩
                            · intro h48
                              refine zw_5 zr_140_6 rfl ?_
                              refine zw_6 zr_140_7 rfl ?_
                              refine zw_39_2 zr_140_9 zr_140_10 ?_ ?_
                              · intro h49
                                refine zw_push zr_140_17 ?_
                                refine zw_R zr_140_18 (by decide) zm_140 (v := (0, 0)) (zRetB (by omega)) ?_
                                rw [← hQ1]
                                show zW E (d) 202 81 [(2, 69), (0, a0), (0, a1), (0, a2), (0, a3), (0, r43), (0, r44), (9, 0), (9, 0), (9, 0), (9, 0), (9, 0)] [(0, 0)] m0 Q
                                refine zw_40_4 zr_202_81 ?_ ?_
                                · intro h50; omega
                                · intro h51
                                  refine zw_push zr_202_84 ?_
                                  refine zw_R zr_202_86 (by decide) zm_202 (v := (0, (-3))) rfl ?_
                                  rw [← hQ]; exact ⟨_, rfl, by omega, by omega, hI0, hF0⟩
                              · intro h52
                                refine zw_push zr_140_13 ?_
                                refine zw_42 zr_140_14 ?_
                                refine zw_R zr_140_18 (by decide) zm_140 (v := (0, 1)) (zRetB (by omega)) ?_
                                rw [← hQ1]
                                show zW E (d) 202 81 [(2, 69), (0, a0), (0, a1), (0, a2), (0, a3), (0, r43), (0, r44), (9, 0), (9, 0), (9, 0), (9, 0), (9, 0)] [(0, 1)] m0 Q
                                refine zw_40_4 zr_202_81 ?_ ?_
                                · intro h53
                                  refine zw_push zr_202_87 ?_
                                  refine zw_14 (L' := [(2, 69), (0, a0), (0, a1), (0, a2), (0, a3), (0, r43), (0, r44), (1, 0), (9, 0), (9, 0), (9, 0), (9, 0)]) zr_202_88 (Nat.le_of_ble_eq_true rfl) rfl ?_
                                  refine zw_push zr_202_90 ?_
                                  refine zw_14 (L' := [(2, 69), (0, a0), (0, a1), (0, a2), (0, a3), (0, r43), (0, r44), (1, 0), (9, 0), (1, 1), (9, 0), (9, 0)]) zr_202_91 (Nat.le_of_ble_eq_true rfl) rfl ?_
                                  refine zw_push zr_202_93 ?_
                                  refine zw_10 (L' := [(2, 69), (0, a0), (0, a1), (0, a2), (0, a3), (0, r43), (0, r44), (1, 0), (9, 0), (1, 1), (9, 0), (0, 0)]) zr_202_94 (Nat.le_of_ble_eq_true rfl) rfl ?_
                                  have lp96_58 : ∀ (nlp96_58 : Nat) (i54 i55 i56 : Int) (m57 : zM), zInv m57 → zFr W_202 m0 m57 → m57 70 822 = f1 → (-9223372036854775808) ≤ i54 → i54 ≤ 9223372036854775807 → (-9223372036854775808) ≤ i55 → i55 ≤ 9223372036854775807 → 0 ≤ i56 → i56 ≤ 16 → (16 - i56).toNat < nlp96_58 → zW E (d) 202 96 [(2, 69), (0, a0), (0, a1), (0, a2), (0, a3), (0, r43), (0, r44), (1, i54), (9, 0), (1, i55), (9, 0), (0, i56)] [] m57 Q := by
                                    intro nlp96_58
                                    induction nlp96_58 with
                                    | zero =>
                                      intros
                                      exact absurd (by assumption : _ < 0) (Nat.not_lt_zero _)
                                    | succ nlp96_58 ihlp96_58 =>
                                      intro i54 i55 i56 m57 hIm57 hFm57 km57_70_822 li54 ui54 li55 ui55 li56 ui56 hmlp96_58
                                      refine zw_4 zr_202_96 rfl ?_
                                      refine zw_4 zr_202_98 rfl ?_
                                      refine zw_41_2 zr_202_100 ?_ ?_
                                      · intro h60
                                        refine zw_7 zr_202_166 rfl ?_
                                        refine zw_6 zr_202_167 rfl ?_
                                        refine zw_4 zr_202_169 rfl ?_
                                        refine zw_36 zr_202_171 ?_
                                        refine zw_4 zr_202_172 rfl ?_
                                        refine zw_C zr_202_174 (Or.inr rfl) zm_201 rfl rfl ⟨Nat.le_of_ble_eq_true rfl, Nat.le_of_ble_eq_true rfl, Nat.le_of_ble_eq_true rfl, rfl, by decide⟩ (by omega) (th_201 (d := d - 1) (by omega) hIm57 (a0 := a3) (a1 := r43)   (by omega) (by omega)) ?_
                                        rintro _ _ ⟨r61, rfl, hr61a, hr61b, rfl⟩
                                        show zW E (d) 202 177 [(2, 69), (0, a0), (0, a1), (0, a2), (0, a3), (0, r43), (0, r44), (1, i54), (9, 0), (1, i55), (9, 0), (0, i56)] [(1, r61), (1, i54), (2, 69)] m57 Q
                                        refine zw_C zr_202_177 (Or.inl rfl) zm_173 rfl rfl ⟨Nat.le_of_ble_eq_true rfl, Nat.le_of_ble_eq_true rfl, Nat.le_of_ble_eq_true rfl, rfl, by decide⟩ (by omega) (th_173 (d := d - 1) (by omega) hIm57 (a0 := i54) (a1 := r61)   (by omega) (by omega)) ?_
                                        rintro _ m62 ⟨rfl, hIm62, gm62⟩
                                        have hFm62 : zFr W_202 m0 m62 := hFm57.trans gm62 rfl
                                        have km62_70_822 : m62 70 822 = f1 := (gm62 70 822 rfl).trans km57_70_822
                                        show zW E (d) 202 180 [(2, 69), (0, a0), (0, a1), (0, a2), (0, a3), (0, r43), (0, r44), (1, i54), (9, 0), (1, i55), (9, 0), (0, i56)] [] m62 Q
                                        refine zw_push zr_202_180 ?_
                                        refine zw_R zr_202_181 (by decide) zm_202 (v := (0, 1)) rfl ?_
                                        rw [← hQ]; exact ⟨_, rfl, by omega, by omega, hIm62, hFm62⟩
                                      · intro h63
                                        refine zw_6 zr_202_103 rfl ?_
                                        refine zw_4 zr_202_105 rfl ?_
                                        refine zw_4 zr_202_107 rfl ?_
                                        refine zw_41_0 zr_202_109 ?_ ?_
                                        · intro h64
                                          refine zw_push zr_202_139 ?_
                                          refine zw_27 zr_202_140 (by omega) ?_
                                          refine zw_14 (L' := [(2, 69), (0, a0), (0, a1), (0, a2), (0, a3), (0, r43), (0, r44), (1, (i54 + 0)), (9, 0), (1, i55), (9, 0), (0, i56)]) zr_202_141 (Nat.le_of_ble_eq_true rfl) rfl ?_
                                          refine zw_6 zr_202_143 rfl ?_
                                          refine zw_4 zr_202_145 rfl ?_
                                          refine zw_4 zr_202_147 rfl ?_
                                          refine zw_17 zr_202_149 (by omega) ?_
                                          refine zw_36 zr_202_150 ?_
                                          refine zw_29h zr_202_151 ?_
                                          intro x65 hx65a hx65b
                                          refine zw_4 zr_202_152 rfl ?_
                                          refine zw_push zr_202_154 ?_
                                          refine zw_16 zr_202_155 (by omega) ?_
                                          refine zw_36 zr_202_156 ?_
                                          refine zw_118h zr_202_157 (by omega) ?_
                                          intro x66 hx66a hx66b
                                          refine zw_14 (L' := [(2, 69), (0, a0), (0, a1), (0, a2), (0, a3), (0, r43), (0, r44), (1, (i54 + 0)), (9, 0), (1, x66), (9, 0), (0, i56)]) zr_202_158 (Nat.le_of_ble_eq_true rfl) rfl ?_
                                          refine zw_15 (c := 1) (L' := [(2, 69), (0, a0), (0, a1), (0, a2), (0, a3), (0, r43), (0, r44), (1, (i54 + 0)), (9, 0), (1, x66), (9, 0), (0, (i56 + 1))]) zr_202_160 rfl (by decide) (by omega) rfl ?_
                                          refine zw_42 zr_202_163 ?_
                                          exact zw_less (L := [(2, 69), (0, a0), (0, a1), (0, a2), (0, a3), (0, r43), (0, r44), (1, (i54 + 0)), (9, 0), (1, x66), (9, 0), (0, (i56 + 1))]) ⟨Or.inr rfl, Or.inr rfl, Or.inr rfl, Or.inr rfl, Or.inr rfl, Or.inr rfl, Or.inr rfl, Or.inr rfl, Or.inl rfl, Or.inr rfl, Or.inl rfl, Or.inr rfl, trivial⟩ (ihlp96_58 ((i54 + 0)) (x66) ((i56 + 1)) m57 hIm57 hFm57  km57_70_822 (by omega) (by omega) (by omega) (by omega) (by omega) (by omega) (by omega))
                                        · intro h67
                                          refine zw_6 zr_202_112 rfl ?_
                                          refine zw_3 zr_202_114 rfl ?_
                                          refine zw_36 zr_202_115 ?_
                                          refine zw_4 zr_202_116 rfl ?_
                                          refine zw_C zr_202_118 (Or.inr rfl) zm_201 rfl rfl ⟨Nat.le_of_ble_eq_true rfl, Nat.le_of_ble_eq_true rfl, Nat.le_of_ble_eq_true rfl, rfl, by decide⟩ (by omega) (th_201 (d := d - 1) (by omega) hIm57 (a0 := a2) (a1 := i56)   (by omega) (by omega)) ?_
                                          rintro _ _ ⟨r68, rfl, hr68a, hr68b, rfl⟩
                                          show zW E (d) 202 121 [(2, 69), (0, a0), (0, a1), (0, a2), (0, a3), (0, r43), (0, r44), (1, i54), (9, 0), (1, i55), (9, 0), (0, i56)] [(1, r68), (1, i55), (1, i54)] m57 Q
                                          refine zw_29h zr_202_121 ?_
                                          intro x69 hx69a hx69b
                                          refine zw_4 zr_202_122 rfl ?_
                                          refine zw_3 zr_202_124 rfl ?_
                                          refine zw_17 zr_202_125 (by omega) ?_
                                          refine zw_36 zr_202_126 ?_
                                          refine zw_4 zr_202_127 rfl ?_
                                          refine zw_4 zr_202_129 rfl ?_
                                          refine zw_17 zr_202_131 (by omega) ?_
                                          refine zw_C zr_202_132 (Or.inr rfl) zm_201 rfl rfl ⟨Nat.le_of_ble_eq_true rfl, Nat.le_of_ble_eq_true rfl, Nat.le_of_ble_eq_true rfl, rfl, by decide⟩ (by omega) (th_201 (d := d - 1) (by omega) hIm57 (a0 := (a3 - a2)) (a1 := (r43 - i56))   (by omega) (by omega)) ?_
                                          rintro _ _ ⟨r70, rfl, hr70a, hr70b, rfl⟩
                                          show zW E (d) 202 135 [(2, 69), (0, a0), (0, a1), (0, a2), (0, a3), (0, r43), (0, r44), (1, i54), (9, 0), (1, i55), (9, 0), (0, i56)] [(1, r70), (1, x69), (1, i54)] m57 Q
                                          refine zw_29h zr_202_135 ?_
                                          intro x71 hx71a hx71b
                                          refine zw_42 zr_202_136 ?_
                                          refine zw_27h zr_202_140 ?_
                                          intro x72 hx72a hx72b
                                          refine zw_14 (L' := [(2, 69), (0, a0), (0, a1), (0, a2), (0, a3), (0, r43), (0, r44), (1, x72), (9, 0), (1, i55), (9, 0), (0, i56)]) zr_202_141 (Nat.le_of_ble_eq_true rfl) rfl ?_
                                          refine zw_6 zr_202_143 rfl ?_
                                          refine zw_4 zr_202_145 rfl ?_
                                          refine zw_4 zr_202_147 rfl ?_
                                          refine zw_17 zr_202_149 (by omega) ?_
                                          refine zw_36 zr_202_150 ?_
                                          refine zw_29h zr_202_151 ?_
                                          intro x73 hx73a hx73b
                                          refine zw_4 zr_202_152 rfl ?_
                                          refine zw_push zr_202_154 ?_
                                          refine zw_16 zr_202_155 (by omega) ?_
                                          refine zw_36 zr_202_156 ?_
                                          refine zw_118h zr_202_157 (by omega) ?_
                                          intro x74 hx74a hx74b
                                          refine zw_14 (L' := [(2, 69), (0, a0), (0, a1), (0, a2), (0, a3), (0, r43), (0, r44), (1, x72), (9, 0), (1, x74), (9, 0), (0, i56)]) zr_202_158 (Nat.le_of_ble_eq_true rfl) rfl ?_
                                          refine zw_15 (c := 1) (L' := [(2, 69), (0, a0), (0, a1), (0, a2), (0, a3), (0, r43), (0, r44), (1, x72), (9, 0), (1, x74), (9, 0), (0, (i56 + 1))]) zr_202_160 rfl (by decide) (by omega) rfl ?_
                                          refine zw_42 zr_202_163 ?_
                                          exact zw_less (L := [(2, 69), (0, a0), (0, a1), (0, a2), (0, a3), (0, r43), (0, r44), (1, x72), (9, 0), (1, x74), (9, 0), (0, (i56 + 1))]) ⟨Or.inr rfl, Or.inr rfl, Or.inr rfl, Or.inr rfl, Or.inr rfl, Or.inr rfl, Or.inr rfl, Or.inr rfl, Or.inl rfl, Or.inr rfl, Or.inl rfl, Or.inr rfl, trivial⟩ (ihlp96_58 (x72) (x74) ((i56 + 1)) m57 hIm57 hFm57  km57_70_822 (by omega) (by omega) (by omega) (by omega) (by omega) (by omega) (by omega))
                                  exact lp96_58 _ (0) (1) (0) m0 hI0 hF0  ef1 (by omega) (by omega) (by omega) (by omega) (by omega) (by omega) (Nat.lt_succ_self _)
                                · intro h75; omega
                          · intro h76; omega

set_option maxHeartbeats 8000000 in
theorem th_127 {E : zE} {d : Nat} {m0 : zM} (hd : 3 ≤ d) (hI0 : zInv m0) : zC E d 127 [(2, 0)] m0 (fun v m' => ∃ r : Int, v = (0, r) ∧ (-2147483648) ≤ r ∧ r ≤ 2147483647 ∧ m0 = m') := by
  generalize hQ : (fun (v : zV) (m' : zM) => ∃ r : Int, v = (0, r) ∧ (-2147483648) ≤ r ∧ r ≤ 2147483647 ∧ m0 = m') = Q
  show zW E d 127 0 [(2, 0), (9, 0), (9, 0), (9, 0)] [] m0 Q
  refine zw_push zr_127_0 ?_
  refine zw_9 (L' := [(2, 0), (0, 0), (9, 0), (9, 0)]) zr_127_1 (Nat.le_of_ble_eq_true rfl) rfl ?_
  refine zw_push zr_127_2 ?_
  refine zw_9 (L' := [(2, 0), (0, 0), (0, 0), (9, 0)]) zr_127_3 (Nat.le_of_ble_eq_true rfl) rfl ?_
  have lp4_3 : ∀ (nlp4_3 : Nat) (i1 i2 : Int), (-2147483648) ≤ i1 → i1 ≤ 2147483647 → 0 ≤ i2 → i2 ≤ 10 → (10 - i2).toNat < nlp4_3 → zW E (d) 127 4 [(2, 0), (0, i1), (0, i2), (9, 0)] [] m0 Q := by
    intro nlp4_3
    induction nlp4_3 with
    | zero =>
      intros
      exact absurd (by assumption : _ < 0) (Nat.not_lt_zero _)
    | succ nlp4_3 ihlp4_3 =>
      intro i1 i2 li1 ui1 li2 ui2 hmlp4_3
      refine zw_3 zr_127_4 rfl ?_
      refine zw_7 zr_127_5 rfl ?_
      refine zw_46r (s := 1) zr_127_6 rfl rfl rfl rfl ?_
      obtain ⟨f5, ef5⟩ : ∃ v, m0 1 0 = v := ⟨_, rfl⟩
      have bf5 := ib_1_0 hI0
      rw [ef5] at bf5
      refine zw_46i zr_127_9 ef5 rfl rfl rfl ?_
      refine zw_41_3 zr_127_12 ?_ ?_
      · intro h6
        refine zw_3 zr_127_63 rfl ?_
        refine zw_R zr_127_64 (by decide) zm_127 (v := (0, i1)) rfl ?_
        rw [← hQ]; exact ⟨_, rfl, by omega, by omega, rfl⟩
      · intro h7
        refine zw_3 zr_127_15 rfl ?_
        refine zw_push zr_127_16 ?_
        refine zw_16 zr_127_17 (by omega) ?_
        refine zw_9 (L' := [(2, 0), (0, i1), (0, i2), (0, (i2 + 1))]) zr_127_18 (Nat.le_of_ble_eq_true rfl) rfl ?_
        have lp19_10 : ∀ (nlp19_10 : Nat) (i8 i9 : Int), (-2147483648) ≤ i8 → i8 ≤ 2147483647 → 1 ≤ i9 → i9 ≤ 10 → (10 - i9).toNat < nlp19_10 → zW E (d) 127 19 [(2, 0), (0, i8), (0, i2), (0, i9)] [] m0 Q := by
          intro nlp19_10
          induction nlp19_10 with
          | zero =>
            intros
            exact absurd (by assumption : _ < 0) (Nat.not_lt_zero _)
          | succ nlp19_10 ihlp19_10 =>
            intro i8 i9 li8 ui8 li9 ui9 hmlp19_10
            refine zw_3 zr_127_19 rfl ?_
            refine zw_7 zr_127_20 rfl ?_
            refine zw_46r (s := 1) zr_127_21 rfl rfl rfl rfl ?_
            refine zw_46i zr_127_24 ef5 rfl rfl rfl ?_
            refine zw_41_3 zr_127_27 ?_ ?_
            · intro h12
              refine zw_15 (c := 1) (L' := [(2, 0), (0, i8), (0, (i2 + 1)), (0, i9)]) zr_127_57 rfl (by decide) (by omega) rfl ?_
              refine zw_42 zr_127_60 ?_
              exact zw_less (L := [(2, 0), (0, i8), (0, (i2 + 1)), (9, 0)]) ⟨Or.inr rfl, Or.inr rfl, Or.inr rfl, Or.inl rfl, trivial⟩ (ihlp4_3 (i8) ((i2 + 1))  (by omega) (by omega) (by omega) (by omega) (by omega))
            · intro h13
              refine zw_7 zr_127_30 rfl ?_
              refine zw_46r (s := 1) zr_127_31 rfl rfl rfl rfl ?_
              refine zw_3 zr_127_34 rfl ?_
              refine zw_3 zr_127_35 rfl ?_
              refine zw_C zr_127_36 (Or.inl rfl) zm_56 rfl rfl ⟨Nat.le_of_ble_eq_true rfl, Nat.le_of_ble_eq_true rfl, Nat.le_of_ble_eq_true rfl, rfl, by decide⟩ (by omega) (th_56 (d := d - 1) (by omega) hI0 (a0 := i2) (a1 := i9)   (by omega) (by omega)) ?_
              rintro _ _ ⟨r14, rfl, hr14a, hr14b, rfl⟩
              show zW E (d) 127 39 [(2, 0), (0, i8), (0, i2), (0, i9)] [(0, r14)] m0 Q
              refine zw_push zr_127_39 ?_
              refine zw_push zr_127_40 ?_
              refine zw_C zr_127_42 (Or.inr rfl) zm_100 rfl rfl ⟨Nat.le_of_ble_eq_true rfl, Nat.le_of_ble_eq_true rfl, Nat.le_of_ble_eq_true rfl, rfl, by decide⟩ (by omega) (P := (fun v m' => zW E (d) 127 45 [(2, 0), (0, i8), (0, i2), (0, i9)] (if v.1 = 9 then [] else v :: []) m' Q)) ?_ (fun _ _ h => h)
              generalize hQ1 : (fun v m' => zW E (d) 127 45 [(2, 0), (0, i8), (0, i2), (0, i9)] (if v.1 = 9 then [] else v :: []) m' Q) = Q1
              show zW E (d - 1) 100 0 [(0, r14), (0, 1), (0, 15)] [] m0 Q1
              refine zw_3 zr_100_0 rfl ?_
              refine zw_3 zr_100_1 rfl ?_
              refine zw_41_0 zr_100_2 ?_ ?_
              · intro h15
                refine zw_push zr_100_14 ?_
                refine zw_R zr_100_15 (by decide) zm_100 (v := (0, 0)) (zRetB (by omega)) ?_
                rw [← hQ1]
                show zW E (d) 127 45 [(2, 0), (0, i8), (0, i2), (0, i9)] [(0, 0)] m0 Q
                refine zw_40_1 zr_127_45 ?_ ?_
                · intro h16
                  refine zw_15 (c := 1) (L' := [(2, 0), (0, i8), (0, i2), (0, (i9 + 1))]) zr_127_51 rfl (by decide) (by omega) rfl ?_
                  refine zw_42 zr_127_54 ?_
                  exact zw_less (L := [(2, 0), (0, i8), (0, i2), (0, (i9 + 1))]) ⟨Or.inr rfl, Or.inr rfl, Or.inr rfl, Or.inr rfl, trivial⟩ (ihlp19_10 (i8) ((i9 + 1))  (by omega) (by omega) (by omega) (by omega) (by omega))
                · intro h17; omega
              · intro h18
                refine zw_3 zr_100_5 rfl ?_
                refine zw_3 zr_100_6 rfl ?_
                refine zw_41_2 zr_100_7 ?_ ?_
                · intro h19
                  refine zw_push zr_100_14 ?_
                  refine zw_R zr_100_15 (by decide) zm_100 (v := (0, 0)) (zRetB (by omega)) ?_
                  rw [← hQ1]
                  show zW E (d) 127 45 [(2, 0), (0, i8), (0, i2), (0, i9)] [(0, 0)] m0 Q
                  refine zw_40_1 zr_127_45 ?_ ?_
                  · intro h20
                    refine zw_15 (c := 1) (L' := [(2, 0), (0, i8), (0, i2), (0, (i9 + 1))]) zr_127_51 rfl (by decide) (by omega) rfl ?_
                    refine zw_42 zr_127_54 ?_
                    exact zw_less (L := [(2, 0), (0, i8), (0, i2), (0, (i9 + 1))]) ⟨Or.inr rfl, Or.inr rfl, Or.inr rfl, Or.inr rfl, trivial⟩ (ihlp19_10 (i8) ((i9 + 1))  (by omega) (by omega) (by omega) (by omega) (by omega))
                  · intro h21; omega
                · intro h22
                  refine zw_push zr_100_10 ?_
                  refine zw_42 zr_100_11 ?_
                  refine zw_R zr_100_15 (by decide) zm_100 (v := (0, 1)) (zRetB (by omega)) ?_
                  rw [← hQ1]
                  show zW E (d) 127 45 [(2, 0), (0, i8), (0, i2), (0, i9)] [(0, 1)] m0 Q
                  refine zw_40_1 zr_127_45 ?_ ?_
                  · intro h23; omega
                  · intro h24
                    refine zw_15h (L' := fun r => [(2, 0), (0, r), (0, i2), (0, i9)]) zr_127_48 rfl (fun _ => rfl) ?_
                    intro x25 hx25a hx25b
                    show zW E (d) 127 51 [(2, 0), (0, x25), (0, i2), (0, i9)] [] m0 Q
                    refine zw_15 (c := 1) (L' := [(2, 0), (0, x25), (0, i2), (0, (i9 + 1))]) zr_127_51 rfl (by decide) (by omega) rfl ?_
                    refine zw_42 zr_127_54 ?_
                    exact zw_less (L := [(2, 0), (0, x25), (0, i2), (0, (i9 + 1))]) ⟨Or.inr rfl, Or.inr rfl, Or.inr rfl, Or.inr rfl, trivial⟩ (ihlp19_10 (x25) ((i9 + 1))  (by omega) (by omega) (by omega) (by omega) (by omega))
        exact lp19_10 _ (i1) ((i2 + 1))  (by omega) (by omega) (by omega) (by omega) (Nat.lt_succ_self _)
  exact lp4_3 _ (0) (0)  (by omega) (by omega) (by omega) (by omega) (Nat.lt_succ_self _)

set_option maxHeartbeats 8000000 in
theorem th_203 {E : zE} {d : Nat} {m0 : zM} (hd : 4 ≤ d) (hI0 : zInv m0) : zC E d 203 [(2, 69)] m0 (fun v m' => ∃ r : Int, v = (0, r) ∧ (-2147483648) ≤ r ∧ r ≤ 2147483647 ∧ m0 = m') := by
  generalize hQ : (fun (v : zV) (m' : zM) => ∃ r : Int, v = (0, r) ∧ (-2147483648) ≤ r ∧ r ≤ 2147483647 ∧ m0 = m') = Q
  show zW E d 203 0 [(2, 69), (9, 0), (9, 0), (9, 0)] [] m0 Q
  refine zw_push zr_203_0 ?_
  refine zw_9 (L' := [(2, 69), (0, 0), (9, 0), (9, 0)]) zr_203_1 (Nat.le_of_ble_eq_true rfl) rfl ?_
  refine zw_push zr_203_2 ?_
  refine zw_9 (L' := [(2, 69), (0, 0), (0, 0), (9, 0)]) zr_203_3 (Nat.le_of_ble_eq_true rfl) rfl ?_
  have lp4_3 : ∀ (nlp4_3 : Nat) (i1 i2 : Int), (-2147483648) ≤ i1 → i1 ≤ 2147483647 → 0 ≤ i2 → i2 ≤ 10 → (10 - i2).toNat < nlp4_3 → zW E (d) 203 4 [(2, 69), (0, i1), (0, i2), (9, 0)] [] m0 Q := by
    intro nlp4_3
    induction nlp4_3 with
    | zero =>
      intros
      exact absurd (by assumption : _ < 0) (Nat.not_lt_zero _)
    | succ nlp4_3 ihlp4_3 =>
      intro i1 i2 li1 ui1 li2 ui2 hmlp4_3
      refine zw_3 zr_203_4 rfl ?_
      refine zw_7 zr_203_5 rfl ?_
      refine zw_C zr_203_6 (Or.inl rfl) zm_141 rfl rfl ⟨Nat.le_of_ble_eq_true rfl, Nat.le_of_ble_eq_true rfl, Nat.le_of_ble_eq_true rfl, rfl, by decide⟩ (by omega) (P := (fun v m' => zW E (d) 203 9 [(2, 69), (0, i1), (0, i2), (9, 0)] (if v.1 = 9 then [(0, i2)] else v :: [(0, i2)]) m' Q)) ?_ (fun _ _ h => h)
      generalize hQ1 : (fun v m' => zW E (d) 203 9 [(2, 69), (0, i1), (0, i2), (9, 0)] (if v.1 = 9 then [(0, i2)] else v :: [(0, i2)]) m' Q) = Q1
      show zW E (d - 1) 141 0 [(2, 69)] [] m0 Q1
      refine zw_7 zr_141_0 rfl ?_
      refine zw_46r (s := 70) zr_141_1 rfl rfl rfl rfl ?_
      refine zw_push zr_141_4 ?_
      obtain ⟨f5, ef5⟩ : ∃ v, m0 70 822 = v := ⟨_, rfl⟩
      have bf5 : 0 ≤ m0 70 822 ∧ m0 70 822 ≤ 10 := ib_70_players hI0 (by omega)
      rw [ef5] at bf5
      refine zw_48k (c := 70) (len := 826) zr_141_7 rfl rfl (by omega) (by omega) (show (822 : Int).toNat = 822 by omega) ef5 ?_
      refine zw_R zr_141_8 (by decide) zm_141 (v := (0, f5)) rfl ?_
      rw [← hQ1]
      show zW E (d) 203 9 [(2, 69), (0, i1), (0, i2), (9, 0)] [(0, f5), (0, i2)] m0 Q
      refine zw_41_3 zr_203_9 ?_ ?_
      · intro h6
        refine zw_3 zr_203_49 rfl ?_
        refine zw_R zr_203_50 (by decide) zm_203 (v := (0, i1)) rfl ?_
        rw [← hQ]; exact ⟨_, rfl, by omega, by omega, rfl⟩
      · intro h7
        refine zw_push zr_203_12 ?_
        refine zw_9 (L' := [(2, 69), (0, i1), (0, i2), (0, 0)]) zr_203_13 (Nat.le_of_ble_eq_true rfl) rfl ?_
        have lp14_10 : ∀ (nlp14_10 : Nat) (i8 i9 : Int), (-2147483648) ≤ i8 → i8 ≤ 2147483647 → 0 ≤ i9 → i9 ≤ 9 → (9 - i9).toNat < nlp14_10 → zW E (d) 203 14 [(2, 69), (0, i8), (0, i2), (0, i9)] [] m0 Q := by
          intro nlp14_10
          induction nlp14_10 with
          | zero =>
            intros
            exact absurd (by assumption : _ < 0) (Nat.not_lt_zero _)
          | succ nlp14_10 ihlp14_10 =>
            intro i8 i9 li8 ui8 li9 ui9 hmlp14_10
            refine zw_3 zr_203_14 rfl ?_
            refine zw_3 zr_203_15 rfl ?_
            refine zw_41_3 zr_203_16 ?_ ?_
            · intro h12
              refine zw_15 (c := 1) (L' := [(2, 69), (0, i8), (0, (i2 + 1)), (0, i9)]) zr_203_43 rfl (by decide) (by omega) rfl ?_
              refine zw_42 zr_203_46 ?_
              exact zw_less (L := [(2, 69), (0, i8), (0, (i2 + 1)), (9, 0)]) ⟨Or.inr rfl, Or.inr rfl, Or.inr rfl, Or.inl rfl, trivial⟩ (ihlp4_3 (i8) ((i2 + 1))  (by omega) (by omega) (by omega) (by omega) (by omega))
            · intro h13
              refine zw_3 zr_203_19 rfl ?_
              refine zw_7 zr_203_20 rfl ?_
              refine zw_3 zr_203_21 rfl ?_
              refine zw_3 zr_203_22 rfl ?_
              refine zw_push zr_203_23 ?_
              refine zw_C zr_203_24 (Or.inl rfl) zm_200 rfl rfl ⟨Nat.le_of_ble_eq_true rfl, Nat.le_of_ble_eq_true rfl, Nat.le_of_ble_eq_true rfl, rfl, by decide⟩ (by omega) (th_200 (d := d - 1) (by omega) hI0 (a0 := i2) (a1 := i9) (a2 := 0)   (by omega) (by omega) (by omega)) ?_
              rintro _ _ ⟨r14, rfl, hr14a, hr14b, rfl⟩
              show zW E (d) 203 27 [(2, 69), (0, i8), (0, i2), (0, i9)] [(0, r14), (0, i8)] m0 Q
              refine zw_40_5 zr_203_27 ?_ ?_
              · intro h15
                refine zw_push zr_203_34 ?_
                refine zw_16 zr_203_35 (by omega) ?_
                refine zw_9 (L' := [(2, 69), (0, (i8 + 0)), (0, i2), (0, i9)]) zr_203_36 (Nat.le_of_ble_eq_true rfl) rfl ?_
                refine zw_15 (c := 1) (L' := [(2, 69), (0, (i8 + 0)), (0, i2), (0, (i9 + 1))]) zr_203_37 rfl (by decide) (by omega) rfl ?_
                refine zw_42 zr_203_40 ?_
                exact zw_less (L := [(2, 69), (0, (i8 + 0)), (0, i2), (0, (i9 + 1))]) ⟨Or.inr rfl, Or.inr rfl, Or.inr rfl, Or.inr rfl, trivial⟩ (ihlp14_10 ((i8 + 0)) ((i9 + 1))  (by omega) (by omega) (by omega) (by omega) (by omega))
              · intro h16
                refine zw_push zr_203_30 ?_
                refine zw_42 zr_203_31 ?_
                refine zw_16h zr_203_35 ?_
                intro x17 hx17a hx17b
                refine zw_9 (L' := [(2, 69), (0, x17), (0, i2), (0, i9)]) zr_203_36 (Nat.le_of_ble_eq_true rfl) rfl ?_
                refine zw_15 (c := 1) (L' := [(2, 69), (0, x17), (0, i2), (0, (i9 + 1))]) zr_203_37 rfl (by decide) (by omega) rfl ?_
                refine zw_42 zr_203_40 ?_
                exact zw_less (L := [(2, 69), (0, x17), (0, i2), (0, (i9 + 1))]) ⟨Or.inr rfl, Or.inr rfl, Or.inr rfl, Or.inr rfl, trivial⟩ (ihlp14_10 (x17) ((i9 + 1))  (by omega) (by omega) (by omega) (by omega) (by omega))
        exact lp14_10 _ (i1) (0)  (by omega) (by omega) (by omega) (by omega) (Nat.lt_succ_self _)
  exact lp4_3 _ (0) (0)  (by omega) (by omega) (by omega) (by omega) (Nat.lt_succ_self _)

abbrev W_129 : List (Nat × Nat) := [(3, 1000), (4, 1000)]
set_option maxHeartbeats 8000000 in
theorem th_129 {E : zE} {d : Nat} {m0 : zM} {a0 : Int} {a1 : Int} {a2 : Int} {a3 : Int} (hd : 3 ≤ d) (hI0 : zInv m0) (ha0 : (-2147483648) ≤ a0 ∧ a0 ≤ 2147483647) (ha1 : (-2147483648) ≤ a1 ∧ a1 ≤ 2147483647) (ha2 : (-2147483648) ≤ a2 ∧ a2 ≤ 2147483647) (ha3 : (-2147483648) ≤ a3 ∧ a3 ≤ 2147483647) : zC E d 129 [(2, 0), (0, a0), (0, a1), (0, a2), (0, a3)] m0 (fun v m' => ∃ r : Int, v = (0, r) ∧ (-2) ≤ r ∧ r ≤ 1 ∧ zInv m' ∧ zFr W_129 m0 m') := by
  have hF0 : zFr W_129 m0 m0 := zFr.rfl
  generalize hQ : (fun (v : zV) (m' : zM) => ∃ r : Int, v = (0, r) ∧ (-2) ≤ r ∧ r ≤ 1 ∧ zInv m' ∧ zFr W_129 m0 m') = Q
  show zW E d 129 0 [(2, 0), (0, a0), (0, a1), (0, a2), (0, a3)] [] m0 Q
  refine zw_7 zr_129_0 rfl ?_
  refine zw_46r (s := 1) zr_129_1 rfl rfl rfl rfl ?_
  refine zw_3 zr_129_4 rfl ?_
  refine zw_C zr_129_5 (Or.inl rfl) zm_49 rfl rfl ⟨Nat.le_of_ble_eq_true rfl, Nat.le_of_ble_eq_true rfl, Nat.le_of_ble_eq_true rfl, rfl, by decide⟩ (by omega) (P := (fun v m' => zW E (d) 129 8 [(2, 0), (0, a0), (0, a1), (0, a2), (0, a3)] (if v.1 = 9 then [] else v :: []) m' Q)) ?_ (fun _ _ h => h)
  generalize hQ1 : (fun v m' => zW E (d) 129 8 [(2, 0), (0, a0), (0, a1), (0, a2), (0, a3)] (if v.1 = 9 then [] else v :: []) m' Q) = Q1
  show zW E (d - 1) 49 0 [(2, 1), (0, a0)] [] m0 Q1
  refine zw_3 zr_49_0 rfl ?_
  refine zw_40_0 zr_49_1 ?_ ?_
  · intro h1
    refine zw_push zr_49_16 ?_
    refine zw_R zr_49_17 (by decide) zm_49 (v := (0, 0)) (zRetB (by omega)) ?_
    rw [← hQ1]
    show zW E (d) 129 8 [(2, 0), (0, a0), (0, a1), (0, a2), (0, a3)] [(0, 0)] m0 Q
    refine zw_40_1 zr_129_8 ?_ ?_
    · intro h2
      refine zw_push zr_129_18 ?_
      refine zw_R zr_129_20 (by decide) zm_129 (v := (0, (-2))) rfl ?_
      rw [← hQ]; exact ⟨_, rfl, by omega, by omega, hI0, hF0⟩
    · intro h3; omega
  · intro h4
    refine zw_3 zr_49_4 rfl ?_
    refine zw_7 zr_49_5 rfl ?_
    obtain ⟨f5, ef5⟩ : ∃ v, m0 1 0 = v := ⟨_, rfl⟩
    have bf5 := ib_1_0 hI0
    rw [ef5] at bf5
    refine zw_46i zr_49_6 ef5 rfl rfl rfl ?_
    refine zw_41_3 zr_49_9 ?_ ?_
    · intro h6
      refine zw_push zr_49_16 ?_
      refine zw_R zr_49_17 (by decide) zm_49 (v := (0, 0)) (zRetB (by omega)) ?_
      rw [← hQ1]
      show zW E (d) 129 8 [(2, 0), (0, a0), (0, a1), (0, a2), (0, a3)] [(0, 0)] m0 Q
      refine zw_40_1 zr_129_8 ?_ ?_
      · intro h7
        refine zw_push zr_129_18 ?_
        refine zw_R zr_129_20 (by decide) zm_129 (v := (0, (-2))) rfl ?_
        rw [← hQ]; exact ⟨_, rfl, by omega, by omega, hI0, hF0⟩
      · intro h8; omega
    · intro h9
      refine zw_push zr_49_12 ?_
      refine zw_42 zr_49_13 ?_
      refine zw_R zr_49_17 (by decide) zm_49 (v := (0, 1)) (zRetB (by omega)) ?_
      rw [← hQ1]
      show zW E (d) 129 8 [(2, 0), (0, a0), (0, a1), (0, a2), (0, a3)] [(0, 1)] m0 Q
      refine zw_40_1 zr_129_8 ?_ ?_
      · intro h10; omega
      · intro h11
        refine zw_3 zr_129_11 rfl ?_
        refine zw_C zr_129_12 (Or.inr rfl) zm_128 rfl rfl ⟨Nat.le_of_ble_eq_true rfl, Nat.le_of_ble_eq_true rfl, Nat.le_of_ble_eq_true rfl, rfl, by decide⟩ (by omega) (P := (fun v m' => zW E (d) 129 15 [(2, 0), (0, a0), (0, a1), (0, a2), (0, a3)] (if v.1 = 9 then [] else v :: []) m' Q)) ?_ (fun _ _ h => h)
        generalize hQ1 : (fun v m' => zW E (d) 129 15 [(2, 0), (0, a0), (0, a1), (0, a2), (0, a3)] (if v.1 = 9 then [] else v :: []) m' Q) = Q1
        show zW E (d - 1) 128 0 [(0, a1)] [] m0 Q1
        refine zw_3 zr_128_0 rfl ?_
        refine zw_push zr_128_1 ?_
        refine zw_push zr_128_2 ?_
        refine zw_C zr_128_3 (Or.inr rfl) zm_100 rfl rfl ⟨Nat.le_of_ble_eq_true rfl, Nat.le_of_ble_eq_true rfl, Nat.le_of_ble_eq_true rfl, rfl, by decide⟩ (by omega) (P := (fun v m' => zW E (d - 1) 128 6 [(0, a1)] (if v.1 = 9 then [] else v :: []) m' Q1)) ?_ (fun _ _ h => h)
        generalize hQ2 : (fun v m' => zW E (d - 1) 128 6 [(0, a1)] (if v.1 = 9 then [] else v :: []) m' Q1) = Q2
        show zW E (d - 1 - 1) 100 0 [(0, a1), (0, 0), (0, 3)] [] m0 Q2
        refine zw_3 zr_100_0 rfl ?_
        refine zw_3 zr_100_1 rfl ?_
        refine zw_41_0 zr_100_2 ?_ ?_
        · intro h12
          refine zw_push zr_100_14 ?_
          refine zw_R zr_100_15 (by decide) zm_100 (v := (0, 0)) (zRetB (by omega)) ?_
          rw [← hQ2]
          show zW E (d - 1) 128 6 [(0, a1)] [(0, 0)] m0 Q1
          refine zw_R zr_128_6 (by decide) zm_128 (v := (0, 0)) (zRetB (by omega)) ?_
          rw [← hQ1]
          show zW E (d) 129 15 [(2, 0), (0, a0), (0, a1), (0, a2), (0, a3)] [(0, 0)] m0 Q
          refine zw_40_4 zr_129_15 ?_ ?_
          · intro h13; omega
          · intro h14
            refine zw_push zr_129_18 ?_
            refine zw_R zr_129_20 (by decide) zm_129 (v := (0, (-2))) rfl ?_
            rw [← hQ]; exact ⟨_, rfl, by omega, by omega, hI0, hF0⟩
        · intro h15
          refine zw_3 zr_100_5 rfl ?_
          refine zw_3 zr_100_6 rfl ?_
          refine zw_41_2 zr_100_7 ?_ ?_
          · intro h16
            refine zw_push zr_100_14 ?_
            refine zw_R zr_100_15 (by decide) zm_100 (v := (0, 0)) (zRetB (by omega)) ?_
            rw [← hQ2]
            show zW E (d - 1) 128 6 [(0, a1)] [(0, 0)] m0 Q1
            refine zw_R zr_128_6 (by decide) zm_128 (v := (0, 0)) (zRetB (by omega)) ?_
            rw [← hQ1]
            show zW E (d) 129 15 [(2, 0), (0, a0), (0, a1), (0, a2), (0, a3)] [(0, 0)] m0 Q
            refine zw_40_4 zr_129_15 ?_ ?_
            · intro h17; omega
            · intro h18
              refine zw_push zr_129_18 ?_
              refine zw_R zr_129_20 (by decide) zm_129 (v := (0, (-2))) rfl ?_
              rw [← hQ]; exact ⟨_, rfl, by omega, by omega, hI0, hF0⟩
          · intro h19
            refine zw_push zr_100_10 ?_
            refine zw_42 zr_100_11 ?_
            refine zw_R zr_100_15 (by decide) zm_100 (v := (0, 1)) (zRetB (by omega)) ?_
            rw [← hQ2]
            show zW E (d - 1) 128 6 [(0, a1)] [(0, 1)] m0 Q1
            refine zw_R zr_128_6 (by decide) zm_128 (v := (0, 1)) (zRetB (by omega)) ?_
            rw [← hQ1]
            show zW E (d) 129 15 [(2, 0), (0, a0), (0, a1), (0, a2), (0, a3)] [(0, 1)] m0 Q
            refine zw_40_4 zr_129_15 ?_ ?_
            · intro h20
              refine zw_4 zr_129_21 rfl ?_
              refine zw_push zr_129_23 ?_
              refine zw_push zr_129_24 ?_
              refine zw_C zr_129_26 (Or.inr rfl) zm_100 rfl rfl ⟨Nat.le_of_ble_eq_true rfl, Nat.le_of_ble_eq_true rfl, Nat.le_of_ble_eq_true rfl, rfl, by decide⟩ (by omega) (P := (fun v m' => zW E (d) 129 29 [(2, 0), (0, a0), (0, a1), (0, a2), (0, a3)] (if v.1 = 9 then [] else v :: []) m' Q)) ?_ (fun _ _ h => h)
              generalize hQ1 : (fun v m' => zW E (d) 129 29 [(2, 0), (0, a0), (0, a1), (0, a2), (0, a3)] (if v.1 = 9 then [] else v :: []) m' Q) = Q1
              show zW E (d - 1) 100 0 [(0, a3), (0, 1), (0, 99)] [] m0 Q1
              refine zw_3 zr_100_0 rfl ?_
              refine zw_3 zr_100_1 rfl ?_
              refine zw_41_0 zr_100_2 ?_ ?_
              · intro h21
                refine zw_push zr_100_14 ?_
                refine zw_R zr_100_15 (by decide) zm_100 (v := (0, 0)) (zRetB (by omega)) ?_
                rw [← hQ1]
                show zW E (d) 129 29 [(2, 0), (0, a0), (0, a1), (0, a2), (0, a3)] [(0, 0)] m0 Q
                refine zw_40_1 zr_129_29 ?_ ?_
                · intro h22
                  refine zw_push zr_129_42 ?_
                  refine zw_R zr_129_44 (by decide) zm_129 (v := (0, (-2))) rfl ?_
                  rw [← hQ]; exact ⟨_, rfl, by omega, by omega, hI0, hF0⟩
                · intro h23; omega
              · intro h24
                refine zw_3 zr_100_5 rfl ?_
                refine zw_3 zr_100_6 rfl ?_
                refine zw_41_2 zr_100_7 ?_ ?_
                · intro h25
                  refine zw_push zr_100_14 ?_
                  refine zw_R zr_100_15 (by decide) zm_100 (v := (0, 0)) (zRetB (by omega)) ?_
                  rw [← hQ1]
                  show zW E (d) 129 29 [(2, 0), (0, a0), (0, a1), (0, a2), (0, a3)] [(0, 0)] m0 Q
                  refine zw_40_1 zr_129_29 ?_ ?_
                  · intro h26
                    refine zw_push zr_129_42 ?_
                    refine zw_R zr_129_44 (by decide) zm_129 (v := (0, (-2))) rfl ?_
                    rw [← hQ]; exact ⟨_, rfl, by omega, by omega, hI0, hF0⟩
                  · intro h27; omega
                · intro h28
                  refine zw_push zr_100_10 ?_
                  refine zw_42 zr_100_11 ?_
                  refine zw_R zr_100_15 (by decide) zm_100 (v := (0, 1)) (zRetB (by omega)) ?_
                  rw [← hQ1]
                  show zW E (d) 129 29 [(2, 0), (0, a0), (0, a1), (0, a2), (0, a3)] [(0, 1)] m0 Q
                  refine zw_40_1 zr_129_29 ?_ ?_
                  · intro h29; omega
                  · intro h30
                    refine zw_3 zr_129_32 rfl ?_
                    refine zw_push zr_129_33 ?_
                    refine zw_4 zr_129_34 rfl ?_
                    refine zw_C zr_129_36 (Or.inr rfl) zm_100 rfl rfl ⟨Nat.le_of_ble_eq_true rfl, Nat.le_of_ble_eq_true rfl, Nat.le_of_ble_eq_true rfl, rfl, by decide⟩ (by omega) (P := (fun v m' => zW E (d) 129 39 [(2, 0), (0, a0), (0, a1), (0, a2), (0, a3)] (if v.1 = 9 then [] else v :: []) m' Q)) ?_ (fun _ _ h => h)
                    generalize hQ1 : (fun v m' => zW E (d) 129 39 [(2, 0), (0, a0), (0, a1), (0, a2), (0, a3)] (if v.1 = 9 then [] else v :: []) m' Q) = Q1
                    show zW E (d - 1) 100 0 [(0, a2), (0, 0), (0, a3)] [] m0 Q1
                    refine zw_3 zr_100_0 rfl ?_
                    refine zw_3 zr_100_1 rfl ?_
                    refine zw_41_0 zr_100_2 ?_ ?_
                    · intro h31
                      refine zw_push zr_100_14 ?_
                      refine zw_R zr_100_15 (by decide) zm_100 (v := (0, 0)) (zRetB (by omega)) ?_
                      rw [← hQ1]
                      show zW E (d) 129 39 [(2, 0), (0, a0), (0, a1), (0, a2), (0, a3)] [(0, 0)] m0 Q
                      refine zw_40_4 zr_129_39 ?_ ?_
                      · intro h32; omega
                      · intro h33
                        refine zw_push zr_129_42 ?_
                        refine zw_R zr_129_44 (by decide) zm_129 (v := (0, (-2))) rfl ?_
                        rw [← hQ]; exact ⟨_, rfl, by omega, by omega, hI0, hF0⟩
                    · intro h34
                      refine zw_3 zr_100_5 rfl ?_
                      refine zw_3 zr_100_6 rfl ?_
                      refine zw_41_2 zr_100_7 ?_ ?_
                      · intro h35
                        refine zw_push zr_100_14 ?_
                        refine zw_R zr_100_15 (by decide) zm_100 (v := (0, 0)) (zRetB (by omega)) ?_
                        rw [← hQ1]
                        show zW E (d) 129 39 [(2, 0), (0, a0), (0, a1), (0, a2), (0, a3)] [(0, 0)] m0 Q
                        refine zw_40_4 zr_129_39 ?_ ?_
                        · intro h36; omega
                        · intro h37
                          refine zw_push zr_129_42 ?_
                          refine zw_R zr_129_44 (by decide) zm_129 (v := (0, (-2))) rfl ?_
                          rw [← hQ]; exact ⟨_, rfl, by omega, by omega, hI0, hF0⟩
                      · intro h38
                        refine zw_push zr_100_10 ?_
                        refine zw_42 zr_100_11 ?_
                        refine zw_R zr_100_15 (by decide) zm_100 (v := (0, 1)) (zRetB (by omega)) ?_
                        rw [← hQ1]
                        show zW E (d) 129 39 [(2, 0), (0, a0), (0, a1), (0, a2), (0, a3)] [(0, 1)] m0 Q
                        refine zw_40_4 zr_129_39 ?_ ?_
                        · intro h39
                          refine zw_7 zr_129_45 rfl ?_
                          refine zw_46r (s := 1) zr_129_46 rfl rfl rfl rfl ?_
                          refine zw_46r (s := 3) zr_129_49 rfl rfl rfl rfl ?_
                          refine zw_3 zr_129_52 rfl ?_
                          refine zw_push zr_129_53 ?_
                          refine zw_18 zr_129_54 (by omega) ?_
                          refine zw_3 zr_129_55 rfl ?_
                          refine zw_16 zr_129_56 (by omega) ?_
                          refine zw_3 zr_129_57 rfl ?_
                          refine zw_49 (c := 3) (len := 40) zr_129_58 rfl rfl (by omega) (by omega) ?_
                          intro m40 em40
                          have hIm40 : zInv m40 := by rw [em40]; exact iu_3 hI0 (by omega)
                          have hFm40 : zFr W_129 m0 m40 := by rw [em40]; exact hF0.any rfl
                          have km40_1_0 : m40 1 0 = f5 := by rw [em40, zUp_ne (by omega)]; exact ef5
                          clear em40
                          refine zw_7 zr_129_59 rfl ?_
                          refine zw_46r (s := 1) zr_129_60 rfl rfl rfl rfl ?_
                          refine zw_46r (s := 4) zr_129_63 rfl rfl rfl rfl ?_
                          refine zw_3 zr_129_66 rfl ?_
                          refine zw_push zr_129_67 ?_
                          refine zw_18 zr_129_68 (by omega) ?_
                          refine zw_3 zr_129_69 rfl ?_
                          refine zw_16 zr_129_70 (by omega) ?_
                          refine zw_4 zr_129_71 rfl ?_
                          refine zw_49 (c := 4) (len := 40) zr_129_73 rfl rfl (by omega) (by omega) ?_
                          intro m41 em41
                          have hIm41 : zInv m41 := by rw [em41]; exact iu_4 hIm40 (by omega)
                          have hFm41 : zFr W_129 m0 m41 := by rw [em41]; exact hFm40.any rfl
                          have km41_1_0 : m41 1 0 = f5 := by rw [em41, zUp_ne (by omega)]; exact km40_1_0
                          clear em41
                          refine zw_push zr_129_74 ?_
                          refine zw_R zr_129_75 (by decide) zm_129 (v := (0, 1)) rfl ?_
                          rw [← hQ]; exact ⟨_, rfl, by omega, by omega, hIm41, hFm41⟩
                        · intro h42; omega
            · intro h43; omega

abbrev W_204 : List (Nat × Nat) := [(70, 1000)]
set_option maxHeartbeats 8000000 in
theorem th_204 {E : zE} {d : Nat} {m0 : zM} {a0 : Int} {a1 : Int} {a2 : Int} {a3 : Int} (hd : 3 ≤ d) (hI0 : zInv m0) (ha0 : (-2147483648) ≤ a0 ∧ a0 ≤ 2147483647) (ha1 : (-2147483648) ≤ a1 ∧ a1 ≤ 2147483647) (ha2 : (-2147483648) ≤ a2 ∧ a2 ≤ 2147483647) (ha3 : (-2147483648) ≤ a3 ∧ a3 ≤ 2147483647) : zC E d 204 [(2, 69), (0, a0), (0, a1), (0, a2), (0, a3)] m0 (fun v m' => ∃ r : Int, v = (0, r) ∧ (-2) ≤ r ∧ r ≤ 1 ∧ zInv m' ∧ zFr W_204 m0 m') := by
  have hF0 : zFr W_204 m0 m0 := zFr.rfl
  generalize hQ : (fun (v : zV) (m' : zM) => ∃ r : Int, v = (0, r) ∧ (-2) ≤ r ∧ r ≤ 1 ∧ zInv m' ∧ zFr W_204 m0 m') = Q
  show zW E d 204 0 [(2, 69), (0, a0), (0, a1), (0, a2), (0, a3)] [] m0 Q
  refine zw_7 zr_204_0 rfl ?_
  refine zw_3 zr_204_1 rfl ?_
  refine zw_C zr_204_2 (Or.inl rfl) zm_143 rfl rfl ⟨Nat.le_of_ble_eq_true rfl, Nat.le_of_ble_eq_true rfl, Nat.le_of_ble_eq_true rfl, rfl, by decide⟩ (by omega) (P := (fun v m' => zW E (d) 204 5 [(2, 69), (0, a0), (0, a1), (0, a2), (0, a3)] (if v.1 = 9 then [] else v :: []) m' Q)) ?_ (fun _ _ h => h)
  generalize hQ1 : (fun v m' => zW E (d) 204 5 [(2, 69), (0, a0), (0, a1), (0, a2), (0, a3)] (if v.1 = 9 then [] else v :: []) m' Q) = Q1
  show zW E (d - 1) 143 0 [(2, 69), (0, a0)] [] m0 Q1
  refine zw_3 zr_143_0 rfl ?_
  refine zw_36 zr_143_1 ?_
  refine zw_push zr_143_2 ?_
  refine zw_7 zr_143_3 rfl ?_
  refine zw_C zr_143_4 (Or.inl rfl) zm_141 rfl rfl ⟨Nat.le_of_ble_eq_true rfl, Nat.le_of_ble_eq_true rfl, Nat.le_of_ble_eq_true rfl, rfl, by decide⟩ (by omega) (P := (fun v m' => zW E (d - 1) 143 7 [(2, 69), (0, a0)] (if v.1 = 9 then [(1, 0), (1, a0)] else v :: [(1, 0), (1, a0)]) m' Q1)) ?_ (fun _ _ h => h)
  generalize hQ2 : (fun v m' => zW E (d - 1) 143 7 [(2, 69), (0, a0)] (if v.1 = 9 then [(1, 0), (1, a0)] else v :: [(1, 0), (1, a0)]) m' Q1) = Q2
  show zW E (d - 1 - 1) 141 0 [(2, 69)] [] m0 Q2
  refine zw_7 zr_141_0 rfl ?_
  refine zw_46r (s := 70) zr_141_1 rfl rfl rfl rfl ?_
  refine zw_push zr_141_4 ?_
  obtain ⟨f1, ef1⟩ : ∃ v, m0 70 822 = v := ⟨_, rfl⟩
  have bf1 : 0 ≤ m0 70 822 ∧ m0 70 822 ≤ 10 := ib_70_players hI0 (by omega)
  rw [ef1] at bf1
  refine zw_48k (c := 70) (len := 826) zr_141_7 rfl rfl (by omega) (by omega) (show (822 : Int).toNat = 822 by omega) ef1 ?_
  refine zw_R zr_141_8 (by decide) zm_141 (v := (0, f1)) rfl ?_
  rw [← hQ2]
  show zW E (d - 1) 143 7 [(2, 69), (0, a0)] [(0, f1), (1, 0), (1, a0)] m0 Q1
  refine zw_push zr_143_7 ?_
  refine zw_17 zr_143_8 (by omega) ?_
  refine zw_36 zr_143_9 ?_
  refine zw_C zr_143_10 (Or.inr rfl) zm_140 rfl rfl ⟨Nat.le_of_ble_eq_true rfl, Nat.le_of_ble_eq_true rfl, Nat.le_of_ble_eq_true rfl, rfl, by decide⟩ (by omega) (P := (fun v m' => zW E (d - 1) 143 13 [(2, 69), (0, a0)] (if v.1 = 9 then [] else v :: []) m' Q1)) ?_ (fun _ _ h => h)
  generalize hQ2 : (fun v m' => zW E (d - 1) 143 13 [(2, 69), (0, a0)] (if v.1 = 9 then [] else v :: []) m' Q1) = Q2
  show zW E (d - 1 - 1) 140 0 [(1, a0), (9, 0), (1, 0), (9, 0), (1, (f1 - 1)), (9, 0)] [] m0 Q2
  refine zw_5 zr_140_0 rfl ?_
  refine zw_5 zr_140_1 rfl ?_
  refine zw_39_0 zr_140_2 zr_140_3 ?_ ?_
  · intro h2
    refine zw_push zr_140_17 ?_
    refine zw_R zr_140_18 (by decide) zm_140 (v := (0, 0)) (zRetB (by omega)) ?_
    rw [← hQ2]
    show zW E (d - 1) 143 13 [(2, 69), (0, a0)] [(0, 0)] m0 Q1
    refine zw_R zr_143_13 (by decide) zm_143 (v := (0, 0)) (zRetB (by omega)) ?_
    rw [← hQ1]
    show zW E (d) 204 5 [(2, 69), (0, a0), (0, a1), (0, a2), (0, a3)] [(0, 0)] m0 Q
    refine zw_40_1 zr_204_5 ?_ ?_
    · intro h3
      refine zw_push zr_204_40 ?_
      refine zw_R zr_204_42 (by decide) zm_204 (v := (0, (-2))) rfl ?_
      rw [← hQ]; exact ⟨_, rfl, by omega, by omega, hI0, hF0⟩
    · intro h4; omega
  · intro h5
    refine zw_5 zr_140_6 rfl ?_
    refine zw_6 zr_140_7 rfl ?_
    refine zw_39_2 zr_140_9 zr_140_10 ?_ ?_
    · intro h6
      refine zw_push zr_140_17 ?_
      refine zw_R zr_140_18 (by decide) zm_140 (v := (0, 0)) (zRetB (by omega)) ?_
      rw [← hQ2]
      show zW E (d - 1) 143 13 [(2, 69), (0, a0)] [(0, 0)] m0 Q1
      refine zw_R zr_143_13 (by decide) zm_143 (v := (0, 0)) (zRetB (by omega)) ?_
      rw [← hQ1]
      show zW E (d) 204 5 [(2, 69), (0, a0), (0, a1), (0, a2), (0, a3)] [(0, 0)] m0 Q
      refine zw_40_1 zr_204_5 ?_ ?_
      · intro h7
        refine zw_push zr_204_40 ?_
        refine zw_R zr_204_42 (by decide) zm_204 (v := (0, (-2))) rfl ?_
        rw [← hQ]; exact ⟨_, rfl, by omega, by omega, hI0, hF0⟩
      · intro h8; omega
    · intro h9
      refine zw_push zr_140_13 ?_
      refine zw_42 zr_140_14 ?_
      refine zw_R zr_140_18 (by decide) zm_140 (v := (0, 1)) (zRetB (by omega)) ?_
      rw [← hQ2]
      show zW E (d - 1) 143 13 [(2, 69), (0, a0)] [(0, 1)] m0 Q1
      refine zw_R zr_143_13 (by decide) zm_143 (v := (0, 1)) (zRetB (by omega)) ?_
      rw [← hQ1]
      show zW E (d) 204 5 [(2, 69), (0, a0), (0, a1), (0, a2), (0, a3)] [(0, 1)] m0 Q
      refine zw_40_1 zr_204_5 ?_ ?_
      · intro h10; omega
      · intro h11
        refine zw_3 zr_204_8 rfl ?_
        refine zw_C zr_204_9 (Or.inr rfl) zm_148 rfl rfl ⟨Nat.le_of_ble_eq_true rfl, Nat.le_of_ble_eq_true rfl, Nat.le_of_ble_eq_true rfl, rfl, by decide⟩ (by omega) (P := (fun v m' => zW E (d) 204 12 [(2, 69), (0, a0), (0, a1), (0, a2), (0, a3)] (if v.1 = 9 then [] else v :: []) m' Q)) ?_ (fun _ _ h => h)
        generalize hQ1 : (fun v m' => zW E (d) 204 12 [(2, 69), (0, a0), (0, a1), (0, a2), (0, a3)] (if v.1 = 9 then [] else v :: []) m' Q) = Q1
        show zW E (d - 1) 148 0 [(0, a1)] [] m0 Q1
        refine zw_3 zr_148_0 rfl ?_
        refine zw_36 zr_148_1 ?_
        refine zw_push zr_148_2 ?_
        refine zw_push zr_148_3 ?_
        refine zw_C zr_148_6 (Or.inr rfl) zm_140 rfl rfl ⟨Nat.le_of_ble_eq_true rfl, Nat.le_of_ble_eq_true rfl, Nat.le_of_ble_eq_true rfl, rfl, by decide⟩ (by omega) (P := (fun v m' => zW E (d - 1) 148 9 [(0, a1)] (if v.1 = 9 then [] else v :: []) m' Q1)) ?_ (fun _ _ h => h)
        generalize hQ2 : (fun v m' => zW E (d - 1) 148 9 [(0, a1)] (if v.1 = 9 then [] else v :: []) m' Q1) = Q2
        show zW E (d - 1 - 1) 140 0 [(1, a1), (9, 0), (1, 0), (9, 0), (1, 3), (9, 0)] [] m0 Q2
        refine zw_5 zr_140_0 rfl ?_
        refine zw_5 zr_140_1 rfl ?_
        refine zw_39_0 zr_140_2 zr_140_3 ?_ ?_
        · intro h12
          refine zw_push zr_140_17 ?_
          refine zw_R zr_140_18 (by decide) zm_140 (v := (0, 0)) (zRetB (by omega)) ?_
          rw [← hQ2]
          show zW E (d - 1) 148 9 [(0, a1)] [(0, 0)] m0 Q1
          refine zw_R zr_148_9 (by decide) zm_148 (v := (0, 0)) (zRetB (by omega)) ?_
          rw [← hQ1]
          show zW E (d) 204 12 [(2, 69), (0, a0), (0, a1), (0, a2), (0, a3)] [(0, 0)] m0 Q
          refine zw_40_1 zr_204_12 ?_ ?_
          · intro h13
            refine zw_push zr_204_40 ?_
            refine zw_R zr_204_42 (by decide) zm_204 (v := (0, (-2))) rfl ?_
            rw [← hQ]; exact ⟨_, rfl, by omega, by omega, hI0, hF0⟩
          · intro h14; omega
        · intro h15
          refine zw_5 zr_140_6 rfl ?_
          refine zw_6 zr_140_7 rfl ?_
          refine zw_39_2 zr_140_9 zr_140_10 ?_ ?_
          · intro h16
            refine zw_push zr_140_17 ?_
            refine zw_R zr_140_18 (by decide) zm_140 (v := (0, 0)) (zRetB (by omega)) ?_
            rw [← hQ2]
            show zW E (d - 1) 148 9 [(0, a1)] [(0, 0)] m0 Q1
            refine zw_R zr_148_9 (by decide) zm_148 (v := (0, 0)) (zRetB (by omega)) ?_
            rw [← hQ1]
            show zW E (d) 204 12 [(2, 69), (0, a0), (0, a1), (0, a2), (0, a3)] [(0, 0)] m0 Q
            refine zw_40_1 zr_204_12 ?_ ?_
            · intro h17
              refine zw_push zr_204_40 ?_
              refine zw_R zr_204_42 (by decide) zm_204 (v := (0, (-2))) rfl ?_
              rw [← hQ]; exact ⟨_, rfl, by omega, by omega, hI0, hF0⟩
            · intro h18; omega
          · intro h19
            refine zw_push zr_140_13 ?_
            refine zw_42 zr_140_14 ?_
            refine zw_R zr_140_18 (by decide) zm_140 (v := (0, 1)) (zRetB (by omega)) ?_
            rw [← hQ2]
            show zW E (d - 1) 148 9 [(0, a1)] [(0, 1)] m0 Q1
            refine zw_R zr_148_9 (by decide) zm_148 (v := (0, 1)) (zRetB (by omega)) ?_
            rw [← hQ1]
            show zW E (d) 204 12 [(2, 69), (0, a0), (0, a1), (0, a2), (0, a3)] [(0, 1)] m0 Q
            refine zw_40_1 zr_204_12 ?_ ?_
            · intro h20; omega
            · intro h21
              refine zw_4 zr_204_15 rfl ?_
              refine zw_36 zr_204_17 ?_
              refine zw_push zr_204_18 ?_
              refine zw_push zr_204_19 ?_
              refine zw_C zr_204_22 (Or.inr rfl) zm_140 rfl rfl ⟨Nat.le_of_ble_eq_true rfl, Nat.le_of_ble_eq_true rfl, Nat.le_of_ble_eq_true rfl, rfl, by decide⟩ (by omega) (P := (fun v m' => zW E (d) 204 25 [(2, 69), (0, a0), (0, a1), (0, a2), (0, a3)] (if v.1 = 9 then [] else v :: []) m' Q)) ?_ (fun _ _ h => h)
              generalize hQ1 : (fun v m' => zW E (d) 204 25 [(2, 69), (0, a0), (0, a1), (0, a2), (0, a3)] (if v.1 = 9 then [] else v :: []) m' Q) = Q1
              show zW E (d - 1) 140 0 [(1, a3), (9, 0), (1, 1), (9, 0), (1, 99), (9, 0)] [] m0 Q1
              refine zw_5 zr_140_0 rfl ?_
              refine zw_5 zr_140_1 rfl ?_
              refine zw_39_0 zr_140_2 zr_140_3 ?_ ?_
              · intro h22
                refine zw_push zr_140_17 ?_
                refine zw_R zr_140_18 (by decide) zm_140 (v := (0, 0)) (zRetB (by omega)) ?_
                rw [← hQ1]
                show zW E (d) 204 25 [(2, 69), (0, a0), (0, a1), (0, a2), (0, a3)] [(0, 0)] m0 Q
                refine zw_40_1 zr_204_25 ?_ ?_
                · intro h23
                  refine zw_push zr_204_40 ?_
                  refine zw_R zr_204_42 (by decide) zm_204 (v := (0, (-2))) rfl ?_
                  rw [← hQ]; exact ⟨_, rfl, by omega, by omega, hI0, hF0⟩
                · intro h24; omega
              · intro h25
                refine zw_5 zr_140_6 rfl ?_
                refine zw_6 zr_140_7 rfl ?_
                refine zw_39_2 zr_140_9 zr_140_10 ?_ ?_
                · intro h26
                  refine zw_push zr_140_17 ?_
                  refine zw_R zr_140_18 (by decide) zm_140 (v := (0, 0)) (zRetB (by omega)) ?_
                  rw [← hQ1]
                  show zW E (d) 204 25 [(2, 69), (0, a0), (0, a1), (0, a2), (0, a3)] [(0, 0)] m0 Q
                  refine zw_40_1 zr_204_25 ?_ ?_
                  · intro h27
                    refine zw_push zr_204_40 ?_
                    refine zw_R zr_204_42 (by decide) zm_204 (v := (0, (-2))) rfl ?_
                    rw [← hQ]; exact ⟨_, rfl, by omega, by omega, hI0, hF0⟩
                  · intro h28; omega
                · intro h29
                  refine zw_push zr_140_13 ?_
                  refine zw_42 zr_140_14 ?_
                  refine zw_R zr_140_18 (by decide) zm_140 (v := (0, 1)) (zRetB (by omega)) ?_
                  rw [← hQ1]
                  show zW E (d) 204 25 [(2, 69), (0, a0), (0, a1), (0, a2), (0, a3)] [(0, 1)] m0 Q
                  refine zw_40_1 zr_204_25 ?_ ?_
                  · intro h30; omega
                  · intro h31
                    refine zw_3 zr_204_28 rfl ?_
                    refine zw_36 zr_204_29 ?_
                    refine zw_push zr_204_30 ?_
                    refine zw_4 zr_204_31 rfl ?_
                    refine zw_36 zr_204_33 ?_
                    refine zw_C zr_204_34 (Or.inr rfl) zm_140 rfl rfl ⟨Nat.le_of_ble_eq_true rfl, Nat.le_of_ble_eq_true rfl, Nat.le_of_ble_eq_true rfl, rfl, by decide⟩ (by omega) (P := (fun v m' => zW E (d) 204 37 [(2, 69), (0, a0), (0, a1), (0, a2), (0, a3)] (if v.1 = 9 then [] else v :: []) m' Q)) ?_ (fun _ _ h => h)
                    generalize hQ1 : (fun v m' => zW E (d) 204 37 [(2, 69), (0, a0), (0, a1), (0, a2), (0, a3)] (if v.1 = 9 then [] else v :: []) m' Q) = Q1
                    show zW E (d - 1) 140 0 [(1, a2), (9, 0), (1, 0), (9, 0), (1, a3), (9, 0)] [] m0 Q1
                    refine zw_5 zr_140_0 rfl ?_
                    refine zw_5 zr_140_1 rfl ?_
                    refine zw_39_0 zr_140_2 zr_140_3 ?_ ?_
                    · intro h32
                      refine zw_push zr_140_17 ?_
                      refine zw_R zr_140_18 (by decide) zm_140 (v := (0, 0)) (zRetB (by omega)) ?_
                      rw [← hQ1]
                      show zW E (d) 204 37 [(2, 69), (0, a0), (0, a1), (0, a2), (0, a3)] [(0, 0)] m0 Q
                      refine zw_40_4 zr_204_37 ?_ ?_
                      · intro h33; omega
                      · intro h34
                        refine zw_push zr_204_40 ?_
                        refine zw_R zr_204_42 (by decide) zm_204 (v := (0, (-2))) rfl ?_
                        rw [← hQ]; exact ⟨_, rfl, by omega, by omega, hI0, hF0⟩
                    · intro h35
                      refine zw_5 zr_140_6 rfl ?_
                      refine zw_6 zr_140_7 rfl ?_
                      refine zw_39_2 zr_140_9 zr_140_10 ?_ ?_
                      · intro h36
                        refine zw_push zr_140_17 ?_
                        refine zw_R zr_140_18 (by decide) zm_140 (v := (0, 0)) (zRetB (by omega)) ?_
                        rw [← hQ1]
                        show zW E (d) 204 37 [(2, 69), (0, a0), (0, a1), (0, a2), (0, a3)] [(0, 0)] m0 Q
                        refine zw_40_4 zr_204_37 ?_ ?_
                        · intro h37; omega
                        · intro h38
                          refine zw_push zr_204_40 ?_
                          refine zw_R zr_204_42 (by decide) zm_204 (v := (0, (-2))) rfl ?_
                          rw [← hQ]; exact ⟨_, rfl, by omega, by omega, hI0, hF0⟩
                      · intro h39
                        refine zw_push zr_140_13 ?_
                        refine zw_42 zr_140_14 ?_
                        refine zw_R zr_140_18 (by decide) zm_140 (v := (0, 1)) (zRetB (by omega)) ?_
                        rw [← hQ1]
                        show zW E (d) 204 37 [(2, 69), (0, a0), (0, a1), (0, a2), (0, a3)] [(0, 1)] m0 Q
                        refine zw_40_4 zr_204_37 ?_ ?_
                        · intro h40
                          refine zw_7 zr_204_43 rfl ?_
                          refine zw_46r (s := 70) zr_204_44 rfl rfl rfl rfl ?_
                          refine zw_push zr_204_47 ?_
                          refine zw_push zr_204_49 ?_
                          refine zw_3 zr_204_51 rfl ?_
                          refine zw_18 zr_204_52 (by omega) ?_
                          refine zw_16 zr_204_53 (by omega) ?_
                          refine zw_push zr_204_54 ?_
                          refine zw_3 zr_204_55 rfl ?_
                          refine zw_18 zr_204_56 (by omega) ?_
                          refine zw_16 zr_204_57 (by omega) ?_
                          refine zw_3 zr_204_58 rfl ?_
                          refine zw_49 (c := 70) (len := 826) zr_204_59 rfl rfl (by omega) (by omega) ?_
                          intro m41 em41
                          have hIm41 : zInv m41 := by rw [em41]; exact iu_70_moves hI0 (by omega) (by omega)
                          have hFm41 : zFr W_204 m0 m41 := by rw [em41]; exact hF0.any rfl
                          have km41_70_822 : m41 70 822 = f1 := by rw [em41, zUp_ne (by omega)]; exact ef1
                          clear em41
                          refine zw_7 zr_204_60 rfl ?_
                          refine zw_46r (s := 70) zr_204_61 rfl rfl rfl rfl ?_
                          refine zw_push zr_204_64 ?_
                          refine zw_push zr_204_66 ?_
                          refine zw_3 zr_204_68 rfl ?_
                          refine zw_18 zr_204_69 (by omega) ?_
                          refine zw_16 zr_204_70 (by omega) ?_
                          refine zw_push zr_204_71 ?_
                          refine zw_3 zr_204_72 rfl ?_
                          refine zw_18 zr_204_73 (by omega) ?_
                          refine zw_16 zr_204_74 (by omega) ?_
                          refine zw_push zr_204_75 ?_
                          refine zw_16 zr_204_76 (by omega) ?_
                          refine zw_4 zr_204_77 rfl ?_
                          refine zw_49 (c := 70) (len := 826) zr_204_79 rfl rfl (by omega) (by omega) ?_
                          intro m42 em42
                          have hIm42 : zInv m42 := by rw [em42]; exact iu_70_moves hIm41 (by omega) (by omega)
                          have hFm42 : zFr W_204 m0 m42 := by rw [em42]; exact hFm41.any rfl
                          have km42_70_822 : m42 70 822 = f1 := by rw [em42, zUp_ne (by omega)]; exact km41_70_822
                          clear em42
                          refine zw_push zr_204_80 ?_
                          refine zw_R zr_204_81 (by decide) zm_204 (v := (0, 1)) rfl ?_
                          rw [← hQ]; exact ⟨_, rfl, by omega, by omega, hIm42, hFm42⟩
                        · intro h43; omega

abbrev W_130 : List (Nat × Nat) := [(13, 1000)]
set_option maxHeartbeats 8000000 in
theorem th_130 {E : zE} {d : Nat} {m0 : zM} {a0 : Int} {a1 : Int} (hd : 3 ≤ d) (hI0 : zInv m0) (ha0 : (-2147483648) ≤ a0 ∧ a0 ≤ 2147483647) (ha1 : (-2147483648) ≤ a1 ∧ a1 ≤ 2147483647) : zC E d 130 [(2, 0), (0, a0), (0, a1)] m0 (fun v m' => ∃ r : Int, v = (0, r) ∧ (-2) ≤ r ∧ r ≤ 9 ∧ zInv m' ∧ zFr W_130 m0 m') := by
  have hF0 : zFr W_130 m0 m0 := zFr.rfl
  generalize hQ : (fun (v : zV) (m' : zM) => ∃ r : Int, v = (0, r) ∧ (-2) ≤ r ∧ r ≤ 9 ∧ zInv m' ∧ zFr W_130 m0 m') = Q
  show zW E d 130 0 [(2, 0), (0, a0), (0, a1), (9, 0)] [] m0 Q
  refine zw_3 zr_130_0 rfl ?_
  refine zw_C zr_130_1 (Or.inr rfl) zm_128 rfl rfl ⟨Nat.le_of_ble_eq_true rfl, Nat.le_of_ble_eq_true rfl, Nat.le_of_ble_eq_true rfl, rfl, by decide⟩ (by omega) (P := (fun v m' => zW E (d) 130 4 [(2, 0), (0, a0), (0, a1), (9, 0)] (if v.1 = 9 then [] else v :: []) m' Q)) ?_ (fun _ _ h => h)
  generalize hQ1 : (fun v m' => zW E (d) 130 4 [(2, 0), (0, a0), (0, a1), (9, 0)] (if v.1 = 9 then [] else v :: []) m' Q) = Q1
  show zW E (d - 1) 128 0 [(0, a0)] [] m0 Q1
  refine zw_3 zr_128_0 rfl ?_
  refine zw_push zr_128_1 ?_
  refine zw_push zr_128_2 ?_
  refine zw_C zr_128_3 (Or.inr rfl) zm_100 rfl rfl ⟨Nat.le_of_ble_eq_true rfl, Nat.le_of_ble_eq_true rfl, Nat.le_of_ble_eq_true rfl, rfl, by decide⟩ (by omega) (P := (fun v m' => zW E (d - 1) 128 6 [(0, a0)] (if v.1 = 9 then [] else v :: []) m' Q1)) ?_ (fun _ _ h => h)
  generalize hQ2 : (fun v m' => zW E (d - 1) 128 6 [(0, a0)] (if v.1 = 9 then [] else v :: []) m' Q1) = Q2
  show zW E (d - 1 - 1) 100 0 [(0, a0), (0, 0), (0, 3)] [] m0 Q2
  refine zw_3 zr_100_0 rfl ?_
  refine zw_3 zr_100_1 rfl ?_
  refine zw_41_0 zr_100_2 ?_ ?_
  · intro h1
    refine zw_push zr_100_14 ?_
    refine zw_R zr_100_15 (by decide) zm_100 (v := (0, 0)) (zRetB (by omega)) ?_
    rw [← hQ2]
    show zW E (d - 1) 128 6 [(0, a0)] [(0, 0)] m0 Q1
    refine zw_R zr_128_6 (by decide) zm_128 (v := (0, 0)) (zRetB (by omega)) ?_
    rw [← hQ1]
    show zW E (d) 130 4 [(2, 0), (0, a0), (0, a1), (9, 0)] [(0, 0)] m0 Q
    refine zw_40_1 zr_130_4 ?_ ?_
    · intro h2
      refine zw_push zr_130_17 ?_
      refine zw_R zr_130_19 (by decide) zm_130 (v := (0, (-2))) rfl ?_
      rw [← hQ]; exact ⟨_, rfl, by omega, by omega, hI0, hF0⟩
    · intro h3; omega
  · intro h4
    refine zw_3 zr_100_5 rfl ?_
    refine zw_3 zr_100_6 rfl ?_
    refine zw_41_2 zr_100_7 ?_ ?_
    · intro h5
      refine zw_push zr_100_14 ?_
      refine zw_R zr_100_15 (by decide) zm_100 (v := (0, 0)) (zRetB (by omega)) ?_
      rw [← hQ2]
      show zW E (d - 1) 128 6 [(0, a0)] [(0, 0)] m0 Q1
      refine zw_R zr_128_6 (by decide) zm_128 (v := (0, 0)) (zRetB (by omega)) ?_
      rw [← hQ1]
      show zW E (d) 130 4 [(2, 0), (0, a0), (0, a1), (9, 0)] [(0, 0)] m0 Q
      refine zw_40_1 zr_130_4 ?_ ?_
      · intro h6
        refine zw_push zr_130_17 ?_
        refine zw_R zr_130_19 (by decide) zm_130 (v := (0, (-2))) rfl ?_
        rw [← hQ]; exact ⟨_, rfl, by omega, by omega, hI0, hF0⟩
      · intro h7; omega
    · intro h8
      refine zw_push zr_100_10 ?_
      refine zw_42 zr_100_11 ?_
      refine zw_R zr_100_15 (by decide) zm_100 (v := (0, 1)) (zRetB (by omega)) ?_
      rw [← hQ2]
      show zW E (d - 1) 128 6 [(0, a0)] [(0, 1)] m0 Q1
      refine zw_R zr_128_6 (by decide) zm_128 (v := (0, 1)) (zRetB (by omega)) ?_
      rw [← hQ1]
      show zW E (d) 130 4 [(2, 0), (0, a0), (0, a1), (9, 0)] [(0, 1)] m0 Q
      refine zw_40_1 zr_130_4 ?_ ?_
      · intro h9; omega
      · intro h10
        refine zw_3 zr_130_7 rfl ?_
        refine zw_push zr_130_8 ?_
        refine zw_push zr_130_9 ?_
        refine zw_C zr_130_11 (Or.inr rfl) zm_100 rfl rfl ⟨Nat.le_of_ble_eq_true rfl, Nat.le_of_ble_eq_true rfl, Nat.le_of_ble_eq_true rfl, rfl, by decide⟩ (by omega) (P := (fun v m' => zW E (d) 130 14 [(2, 0), (0, a0), (0, a1), (9, 0)] (if v.1 = 9 then [] else v :: []) m' Q)) ?_ (fun _ _ h => h)
        generalize hQ1 : (fun v m' => zW E (d) 130 14 [(2, 0), (0, a0), (0, a1), (9, 0)] (if v.1 = 9 then [] else v :: []) m' Q) = Q1
        show zW E (d - 1) 100 0 [(0, a1), (0, 1), (0, 9)] [] m0 Q1
        refine zw_3 zr_100_0 rfl ?_
        refine zw_3 zr_100_1 rfl ?_
        refine zw_41_0 zr_100_2 ?_ ?_
        · intro h11
          refine zw_push zr_100_14 ?_
          refine zw_R zr_100_15 (by decide) zm_100 (v := (0, 0)) (zRetB (by omega)) ?_
          rw [← hQ1]
          show zW E (d) 130 14 [(2, 0), (0, a0), (0, a1), (9, 0)] [(0, 0)] m0 Q
          refine zw_40_4 zr_130_14 ?_ ?_
          · intro h12; omega
          · intro h13
            refine zw_push zr_130_17 ?_
            refine zw_R zr_130_19 (by decide) zm_130 (v := (0, (-2))) rfl ?_
            rw [← hQ]; exact ⟨_, rfl, by omega, by omega, hI0, hF0⟩
        · intro h14
          refine zw_3 zr_100_5 rfl ?_
          refine zw_3 zr_100_6 rfl ?_
          refine zw_41_2 zr_100_7 ?_ ?_
          · intro h15
            refine zw_push zr_100_14 ?_
            refine zw_R zr_100_15 (by decide) zm_100 (v := (0, 0)) (zRetB (by omega)) ?_
            rw [← hQ1]
            show zW E (d) 130 14 [(2, 0), (0, a0), (0, a1), (9, 0)] [(0, 0)] m0 Q
            refine zw_40_4 zr_130_14 ?_ ?_
            · intro h16; omega
            · intro h17
              refine zw_push zr_130_17 ?_
              refine zw_R zr_130_19 (by decide) zm_130 (v := (0, (-2))) rfl ?_
              rw [← hQ]; exact ⟨_, rfl, by omega, by omega, hI0, hF0⟩
          · intro h18
            refine zw_push zr_100_10 ?_
            refine zw_42 zr_100_11 ?_
            refine zw_R zr_100_15 (by decide) zm_100 (v := (0, 1)) (zRetB (by omega)) ?_
            rw [← hQ1]
            show zW E (d) 130 14 [(2, 0), (0, a0), (0, a1), (9, 0)] [(0, 1)] m0 Q
            refine zw_40_4 zr_130_14 ?_ ?_
            · intro h19
              refine zw_7 zr_130_20 rfl ?_
              refine zw_46r (s := 1) zr_130_21 rfl rfl rfl rfl ?_
              refine zw_46r (s := 13) zr_130_24 rfl rfl rfl rfl ?_
              refine zw_3 zr_130_27 rfl ?_
              refine zw_48 (c := 13) (len := 4) zr_130_28 rfl rfl (by omega) (by omega) ?_
              intro x20 ex20
              have bx20 := ib_13 hI0 (k := (a0).toNat) (by omega)
              rw [← ex20] at bx20
              clear ex20
              refine zw_9 (L' := [(2, 0), (0, a0), (0, a1), (0, x20)]) zr_130_29 (Nat.le_of_ble_eq_true rfl) rfl ?_
              refine zw_7 zr_130_30 rfl ?_
              refine zw_46r (s := 1) zr_130_31 rfl rfl rfl rfl ?_
              refine zw_46r (s := 13) zr_130_34 rfl rfl rfl rfl ?_
              refine zw_3 zr_130_37 rfl ?_
              refine zw_3 zr_130_38 rfl ?_
              refine zw_49 (c := 13) (len := 4) zr_130_39 rfl rfl (by omega) (by omega) ?_
              intro m21 em21
              have hIm21 : zInv m21 := by rw [em21]; exact iu_13 hI0 (by omega)
              have hFm21 : zFr W_130 m0 m21 := by rw [em21]; exact hF0.any rfl
              clear em21
              refine zw_3 zr_130_40 rfl ?_
              refine zw_R zr_130_41 (by decide) zm_130 (v := (0, x20)) rfl ?_
              rw [← hQ]; exact ⟨_, rfl, by omega, by omega, hIm21, hFm21⟩
            · intro h22; omega

abbrev W_205 : List (Nat × Nat) := [(70, 1000)]
set_option maxHeartbeats 8000000 in
theorem th_205 {E : zE} {d : Nat} {m0 : zM} {a0 : Int} {a1 : Int} (hd : 3 ≤ d) (hI0 : zInv m0) (ha0 : (-2147483648) ≤ a0 ∧ a0 ≤ 2147483647) (ha1 : (-2147483648) ≤ a1 ∧ a1 ≤ 2147483647) : zC E d 205 [(2, 69), (0, a0), (0, a1)] m0 (fun v m' => ∃ r : Int, v = (0, r) ∧ (-2) ≤ r ∧ r ≤ 9 ∧ zInv m' ∧ zFr W_205 m0 m') := by
  have hF0 : zFr W_205 m0 m0 := zFr.rfl
  generalize hQ : (fun (v : zV) (m' : zM) => ∃ r : Int, v = (0, r) ∧ (-2) ≤ r ∧ r ≤ 9 ∧ zInv m' ∧ zFr W_205 m0 m') = Q
  show zW E d 205 0 [(2, 69), (0, a0), (0, a1), (9, 0)] [] m0 Q
  refine zw_3 zr_205_0 rfl ?_
  refine zw_C zr_205_1 (Or.inr rfl) zm_148 rfl rfl ⟨Nat.le_of_ble_eq_true rfl, Nat.le_of_ble_eq_true rfl, Nat.le_of_ble_eq_true rfl, rfl, by decide⟩ (by omega) (P := (fun v m' => zW E (d) 205 4 [(2, 69), (0, a0), (0, a1), (9, 0)] (if v.1 = 9 then [] else v :: []) m' Q)) ?_ (fun _ _ h => h)
  generalize hQ1 : (fun v m' => zW E (d) 205 4 [(2, 69), (0, a0), (0, a1), (9, 0)] (if v.1 = 9 then [] else v :: []) m' Q) = Q1
  show zW E (d - 1) 148 0 [(0, a0)] [] m0 Q1
  refine zw_3 zr_148_0 rfl ?_
  refine zw_36 zr_148_1 ?_
  refine zw_push zr_148_2 ?_
  refine zw_push zr_148_3 ?_
  refine zw_C zr_148_6 (Or.inr rfl) zm_140 rfl rfl ⟨Nat.le_of_ble_eq_true rfl, Nat.le_of_ble_eq_true rfl, Nat.le_of_ble_eq_true rfl, rfl, by decide⟩ (by omega) (P := (fun v m' => zW E (d - 1) 148 9 [(0, a0)] (if v.1 = 9 then [] else v :: []) m' Q1)) ?_ (fun _ _ h => h)
  generalize hQ2 : (fun v m' => zW E (d - 1) 148 9 [(0, a0)] (if v.1 = 9 then [] else v :: []) m' Q1) = Q2
  show zW E (d - 1 - 1) 140 0 [(1, a0), (9, 0), (1, 0), (9, 0), (1, 3), (9, 0)] [] m0 Q2
  refine zw_5 zr_140_0 rfl ?_
  refine zw_5 zr_140_1 rfl ?_
  refine zw_39_0 zr_140_2 zr_140_3 ?_ ?_
  · intro h1
    refine zw_push zr_140_17 ?_
    refine zw_R zr_140_18 (by decide) zm_140 (v := (0, 0)) (zRetB (by omega)) ?_
    rw [← hQ2]
    show zW E (d - 1) 148 9 [(0, a0)] [(0, 0)] m0 Q1
    refine zw_R zr_148_9 (by decide) zm_148 (v := (0, 0)) (zRetB (by omega)) ?_
    rw [← hQ1]
    show zW E (d) 205 4 [(2, 69), (0, a0), (0, a1), (9, 0)] [(0, 0)] m0 Q
    refine zw_40_1 zr_205_4 ?_ ?_
    · intro h2
      refine zw_push zr_205_19 ?_
      refine zw_R zr_205_21 (by decide) zm_205 (v := (0, (-2))) rfl ?_
      rw [← hQ]; exact ⟨_, rfl, by omega, by omega, hI0, hF0⟩
    · intro h3; omega
  · intro h4
    refine zw_5 zr_140_6 rfl ?_
    refine zw_6 zr_140_7 rfl ?_
    refine zw_39_2 zr_140_9 zr_140_10 ?_ ?_
    · intro h5
      refine zw_push zr_140_17 ?_
      refine zw_R zr_140_18 (by decide) zm_140 (v := (0, 0)) (zRetB (by omega)) ?_
      rw [← hQ2]
      show zW E (d - 1) 148 9 [(0, a0)] [(0, 0)] m0 Q1
      refine zw_R zr_148_9 (by decide) zm_148 (v := (0, 0)) (zRetB (by omega)) ?_
      rw [← hQ1]
      show zW E (d) 205 4 [(2, 69), (0, a0), (0, a1), (9, 0)] [(0, 0)] m0 Q
      refine zw_40_1 zr_205_4 ?_ ?_
      · intro h6
        refine zw_push zr_205_19 ?_
        refine zw_R zr_205_21 (by decide) zm_205 (v := (0, (-2))) rfl ?_
        rw [← hQ]; exact ⟨_, rfl, by omega, by omega, hI0, hF0⟩
      · intro h7; omega
    · intro h8
      refine zw_push zr_140_13 ?_
      refine zw_42 zr_140_14 ?_
      refine zw_R zr_140_18 (by decide) zm_140 (v := (0, 1)) (zRetB (by omega)) ?_
      rw [← hQ2]
      show zW E (d - 1) 148 9 [(0, a0)] [(0, 1)] m0 Q1
      refine zw_R zr_148_9 (by decide) zm_148 (v := (0, 1)) (zRetB (by omega)) ?_
      rw [← hQ1]
      show zW E (d) 205 4 [(2, 69), (0, a0), (0, a1), (9, 0)] [(0, 1)] m0 Q
      refine zw_40_1 zr_205_4 ?_ ?_
      · intro h9; omega
      · intro h10
        refine zw_3 zr_205_7 rfl ?_
        refine zw_36 zr_205_8 ?_
        refine zw_push zr_205_9 ?_
        refine zw_push zr_205_10 ?_
        refine zw_C zr_205_13 (Or.inr rfl) zm_140 rfl rfl ⟨Nat.le_of_ble_eq_true rfl, Nat.le_of_ble_eq_true rfl, Nat.le_of_ble_eq_true rfl, rfl, by decide⟩ (by omega) (P := (fun v m' => zW E (d) 205 16 [(2, 69), (0, a0), (0, a1), (9, 0)] (if v.1 = 9 then [] else v :: []) m' Q)) ?_ (fun _ _ h => h)
        generalize hQ1 : (fun v m' => zW E (d) 205 16 [(2, 69), (0, a0), (0, a1), (9, 0)] (if v.1 = 9 then [] else v :: []) m' Q) = Q1
        show zW E (d - 1) 140 0 [(1, a1), (9, 0), (1, 1), (9, 0), (1, 9), (9, 0)] [] m0 Q1
        refine zw_5 zr_140_0 rfl ?_
        refine zw_5 zr_140_1 rfl ?_
        refine zw_39_0 zr_140_2 zr_140_3 ?_ ?_
        · intro h11
          refine zw_push zr_140_17 ?_
          refine zw_R zr_140_18 (by decide) zm_140 (v := (0, 0)) (zRetB (by omega)) ?_
          rw [← hQ1]
          show zW E (d) 205 16 [(2, 69), (0, a0), (0, a1), (9, 0)] [(0, 0)] m0 Q
          refine zw_40_4 zr_205_16 ?_ ?_
          · intro h12; omega
          · intro h13
            refine zw_push zr_205_19 ?_
            refine zw_R zr_205_21 (by decide) zm_205 (v := (0, (-2))) rfl ?_
            rw [← hQ]; exact ⟨_, rfl, by omega, by omega, hI0, hF0⟩
        · intro h14
          refine zw_5 zr_140_6 rfl ?_
          refine zw_6 zr_140_7 rfl ?_
          refine zw_39_2 zr_140_9 zr_140_10 ?_ ?_
          · intro h15
            refine zw_push zr_140_17 ?_
            refine zw_R zr_140_18 (by decide) zm_140 (v := (0, 0)) (zRetB (by omega)) ?_
            rw [← hQ1]
            show zW E (d) 205 16 [(2, 69), (0, a0), (0, a1), (9, 0)] [(0, 0)] m0 Q
            refine zw_40_4 zr_205_16 ?_ ?_
            · intro h16; omega
            · intro h17
              refine zw_push zr_205_19 ?_
              refine zw_R zr_205_21 (by decide) zm_205 (v := (0, (-2))) rfl ?_
              rw [← hQ]; exact ⟨_, rfl, by omega, by omega, hI0, hF0⟩
          · intro h18
            refine zw_push zr_140_13 ?_
            refine zw_42 zr_140_14 ?_
            refine zw_R zr_140_18 (by decide) zm_140 (v := (0, 1)) (zRetB (by omega)) ?_
            rw [← hQ1]
            show zW E (d) 205 16 [(2, 69), (0, a0), (0, a1), (9, 0)] [(0, 1)] m0 Q
            refine zw_40_4 zr_205_16 ?_ ?_
            · intro h19
              refine zw_7 zr_205_22 rfl ?_
              refine zw_46r (s := 70) zr_205_23 rfl rfl rfl rfl ?_
              refine zw_push zr_205_26 ?_
              refine zw_3 zr_205_29 rfl ?_
              refine zw_16 zr_205_30 (by omega) ?_
              refine zw_48 (c := 70) (len := 826) zr_205_31 rfl rfl (by omega) (by omega) ?_
              intro x20 ex20
              have bx20 := ib_70_weight hI0 (k := ((818 + a0)).toNat) (by omega)
              rw [← ex20] at bx20
              clear ex20
              refine zw_9 (L' := [(2, 69), (0, a0), (0, a1), (0, x20)]) zr_205_32 (Nat.le_of_ble_eq_true rfl) rfl ?_
              refine zw_7 zr_205_33 rfl ?_
              refine zw_46r (s := 70) zr_205_34 rfl rfl rfl rfl ?_
              refine zw_push zr_205_37 ?_
              refine zw_3 zr_205_40 rfl ?_
              refine zw_16 zr_205_41 (by omega) ?_
              refine zw_3 zr_205_42 rfl ?_
              refine zw_49 (c := 70) (len := 826) zr_205_43 rfl rfl (by omega) (by omega) ?_
              intro m21 em21
              have hIm21 : zInv m21 := by rw [em21]; exact iu_70_weight hI0 (by omega) (by omega)
              have hFm21 : zFr W_205 m0 m21 := by rw [em21]; exact hF0.any rfl
              clear em21
              refine zw_3 zr_205_44 rfl ?_
              refine zw_R zr_205_45 (by decide) zm_205 (v := (0, x20)) rfl ?_
              rw [← hQ]; exact ⟨_, rfl, by omega, by omega, hIm21, hFm21⟩
            · intro h22; omega

set_option maxHeartbeats 8000000 in
theorem th_60 {E : zE} {d : Nat} {m0 : zM} {a0 : Int} (hd : 1 ≤ d) (hI0 : zInv m0) (ha0 : 0 ≤ a0 ∧ a0 ≤ 9) : zC E d 60 [(2, 1), (0, a0)] m0 (fun v m' => ∃ r : Int, v = (0, r) ∧ (-2147483648) ≤ r ∧ r ≤ 2147483647 ∧ m0 = m') := by
  generalize hQ : (fun (v : zV) (m' : zM) => ∃ r : Int, v = (0, r) ∧ (-2147483648) ≤ r ∧ r ≤ 2147483647 ∧ m0 = m') = Q
  show zW E d 60 0 [(2, 1), (0, a0), (9, 0), (9, 0)] [] m0 Q
  refine zw_push zr_60_0 ?_
  refine zw_9 (L' := [(2, 1), (0, a0), (0, 0), (9, 0)]) zr_60_1 (Nat.le_of_ble_eq_true rfl) rfl ?_
  refine zw_push zr_60_2 ?_
  refine zw_9 (L' := [(2, 1), (0, a0), (0, 0), (0, 0)]) zr_60_3 (Nat.le_of_ble_eq_true rfl) rfl ?_
  have lp4_3 : ∀ (nlp4_3 : Nat) (i1 i2 : Int), (-2147483648) ≤ i1 → i1 ≤ 2147483647 → 0 ≤ i2 → i2 ≤ 4 → (4 - i2).toNat < nlp4_3 → zW E (d) 60 4 [(2, 1), (0, a0), (0, i1), (0, i2)] [] m0 Q := by
    intro nlp4_3
    induction nlp4_3 with
    | zero =>
      intros
      exact absurd (by assumption : _ < 0) (Nat.not_lt_zero _)
    | succ nlp4_3 ihlp4_3 =>
      intro i1 i2 li1 ui1 li2 ui2 hmlp4_3
      refine zw_3 zr_60_4 rfl ?_
      refine zw_push zr_60_5 ?_
      refine zw_41_3 zr_60_6 ?_ ?_
      · intro h5
        refine zw_3 zr_60_28 rfl ?_
        refine zw_R zr_60_29 (by decide) zm_60 (v := (0, i1)) rfl ?_
        rw [← hQ]; exact ⟨_, rfl, by omega, by omega, rfl⟩
      · intro h6
        refine zw_3 zr_60_9 rfl ?_
        refine zw_7 zr_60_10 rfl ?_
        refine zw_46r (s := 4) zr_60_11 rfl rfl rfl rfl ?_
        refine zw_3 zr_60_14 rfl ?_
        refine zw_push zr_60_15 ?_
        refine zw_18 zr_60_16 (by omega) ?_
        refine zw_3 zr_60_17 rfl ?_
        refine zw_16 zr_60_18 (by omega) ?_
        refine zw_48 (c := 4) (len := 40) zr_60_19 rfl rfl (by omega) (by omega) ?_
        intro x7 ex7
        have bx7 := ib_4 hI0 (k := (((a0 * 4) + i2)).toNat) (by omega)
        rw [← ex7] at bx7
        clear ex7
        refine zw_16h zr_60_20 ?_
        intro x8 hx8a hx8b
        refine zw_9 (L' := [(2, 1), (0, a0), (0, x8), (0, i2)]) zr_60_21 (Nat.le_of_ble_eq_true rfl) rfl ?_
        refine zw_15 (c := 1) (L' := [(2, 1), (0, a0), (0, x8), (0, (i2 + 1))]) zr_60_22 rfl (by decide) (by omega) rfl ?_
        refine zw_42 zr_60_25 ?_
        exact zw_less (L := [(2, 1), (0, a0), (0, x8), (0, (i2 + 1))]) ⟨Or.inr rfl, Or.inr rfl, Or.inr rfl, Or.inr rfl, trivial⟩ (ihlp4_3 (x8) ((i2 + 1))  (by omega) (by omega) (by omega) (by omega) (by omega))
  exact lp4_3 _ (0) (0)  (by omega) (by omega) (by omega) (by omega) (Nat.lt_succ_self _)
