set_option maxHeartbeats 8000000 in
theorem th_200 {E : zE} {d : Nat} {m0 : zM} {a0 : Int} {a1 : Int} {a2 : Int} (hd : 3 ≤ d) (hI0 : zInv m0) (ha0 : 0 ≤ a0 ∧ a0 ≤ 9) (ha1 : 0 ≤ a1 ∧ a1 ≤ 9) (ha2 : 0 ≤ a2 ∧ a2 ≤ 1) : zC E d 200 [(2, 69), (0, a0), (0, a1), (0, a2)] m0 (fun v m' => ∃ r : Int, v = (0, r) ∧ (-2147483648) ≤ r ∧ r ≤ 2147483647 ∧ m0 = m') := by
  generalize hQ : (fun (v : zV) (m' : zM) => ∃ r : Int, v = (0, r) ∧ (-2147483648) ≤ r ∧ r ≤ 2147483647 ∧ m0 = m') = Q
  show zW E d 200 0 [(2, 69), (0, a0), (0, a1), (0, a2), (9, 0), (9, 0)] [] m0 Q
  refine zw_push zr_200_0 ?_
  refine zw_10 (L' := [(2, 69), (0, a0), (0, a1), (0, a2), (0, 0), (9, 0)]) zr_200_1 (Nat.le_of_ble_eq_true rfl) rfl ?_
  refine zw_push zr_200_3 ?_
  refine zw_10 (L' := [(2, 69), (0, a0), (0, a1), (0, a2), (0, 0), (0, 0)]) zr_200_4 (Nat.le_of_ble_eq_true rfl) rfl ?_
  have lp6_3 : ∀ (nlp6_3 : Nat) (i1 i2 : Int), (-2147483648) ≤ i1 → i1 ≤ 2147483647 → 0 ≤ i2 → i2 ≤ 60 → (60 - i2).toNat < nlp6_3 → zW E (d) 200 6 [(2, 69), (0, a0), (0, a1), (0, a2), (0, i1), (0, i2)] [] m0 Q := by
    intro nlp6_3
    induction nlp6_3 with
    | zero =>
      intros
      exact absurd (by assumption : _ < 0) (Nat.not_lt_zero _)
    | succ nlp6_3 ihlp6_3 =>
      intro i1 i2 li1 ui1 li2 ui2 hmlp6_3
      refine zw_4 zr_200_6 rfl ?_
      refine zw_7 zr_200_8 rfl ?_
      refine zw_C zr_200_9 (Or.inl rfl) zm_142 rfl rfl ⟨Nat.le_of_ble_eq_true rfl, Nat.le_of_ble_eq_true rfl, Nat.le_of_ble_eq_true rfl, rfl, by decide⟩ (by omega) (P := (fun v m' => zW E (d) 200 12 [(2, 69), (0, a0), (0, a1), (0, a2), (0, i1), (0, i2)] (if v.1 = 9 then [(0, i2)] else v :: [(0, i2)]) m' Q)) ?_ (fun _ _ h => h)
      generalize hQ1 : (fun v m' => zW E (d) 200 12 [(2, 69), (0, a0), (0, a1), (0, a2), (0, i1), (0, i2)] (if v.1 = 9 then [(0, i2)] else v :: [(0, i2)]) m' Q) = Q1
      show zW E (d - 1) 142 0 [(2, 69)] [] m0 Q1
      refine zw_7 zr_142_0 rfl ?_
      refine zw_46r (s := 70) zr_142_1 rfl rfl rfl rfl ?_
      refine zw_push zr_142_4 ?_
      obtain ⟨f5, ef5⟩ : ∃ v, m0 70 823 = v := ⟨_, rfl⟩
      have bf5 : 0 ≤ m0 70 823 ∧ m0 70 823 ≤ 60 := ib_70_meetings hI0 (by omega)
      rw [ef5] at bf5
      refine zw_48k (c := 70) (len := 826) zr_142_7 rfl rfl (by omega) (by omega) (show (823 : Int).toNat = 823 by omega) ef5 ?_
      refine zw_R zr_142_8 (by decide) zm_142 (v := (0, f5)) rfl ?_
      rw [← hQ1]
      show zW E (d) 200 12 [(2, 69), (0, a0), (0, a1), (0, a2), (0, i1), (0, i2)] [(0, f5), (0, i2)] m0 Q
      refine zw_41_3 zr_200_12 ?_ ?_
      · intro h6
        refine zw_4 zr_200_66 rfl ?_
        refine zw_R zr_200_68 (by decide) zm_200 (v := (0, i1)) rfl ?_
        rw [← hQ]; exact ⟨_, rfl, by omega, by omega, rfl⟩
      · intro h7
        refine zw_4 zr_200_15 rfl ?_
        refine zw_7 zr_200_17 rfl ?_
        refine zw_4 zr_200_18 rfl ?_
        refine zw_3 zr_200_20 rfl ?_
        refine zw_C zr_200_21 (Or.inl rfl) zm_171 rfl rfl ⟨Nat.le_of_ble_eq_true rfl, Nat.le_of_ble_eq_true rfl, Nat.le_of_ble_eq_true rfl, rfl, by decide⟩ (by omega) (P := (fun v m' => zW E (d) 200 24 [(2, 69), (0, a0), (0, a1), (0, a2), (0, i1), (0, i2)] (if v.1 = 9 then [(0, i1)] else v :: [(0, i1)]) m' Q)) ?_ (fun _ _ h => h)
        generalize hQ1 : (fun v m' => zW E (d) 200 24 [(2, 69), (0, a0), (0, a1), (0, a2), (0, i1), (0, i2)] (if v.1 = 9 then [(0, i1)] else v :: [(0, i1)]) m' Q) = Q1
        show zW E (d - 1) 171 0 [(2, 69), (0, i2), (0, a0)] [] m0 Q1
        refine zw_7 zr_171_0 rfl ?_
        refine zw_3 zr_171_1 rfl ?_
        refine zw_push zr_171_2 ?_
        refine zw_C zr_171_3 (Or.inl rfl) zm_144 rfl rfl ⟨Nat.le_of_ble_eq_true rfl, Nat.le_of_ble_eq_true rfl, Nat.le_of_ble_eq_true rfl, rfl, by decide⟩ (by omega) (P := (fun v m' => zW E (d - 1) 171 6 [(2, 69), (0, i2), (0, a0)] (if v.1 = 9 then [] else v :: []) m' Q1)) ?_ (fun _ _ h => h)
        generalize hQ2 : (fun v m' => zW E (d - 1) 171 6 [(2, 69), (0, i2), (0, a0)] (if v.1 = 9 then [] else v :: []) m' Q1) = Q2
        show zW E (d - 1 - 1) 144 0 [(2, 69), (0, i2), (0, 1)] [] m0 Q2
        refine zw_7 zr_144_0 rfl ?_
        refine zw_46r (s := 70) zr_144_1 rfl rfl rfl rfl ?_
        refine zw_push zr_144_4 ?_
        refine zw_push zr_144_6 ?_
        refine zw_3 zr_144_8 rfl ?_
        refine zw_18 zr_144_9 (by omega) ?_
        refine zw_16 zr_144_10 (by omega) ?_
        refine zw_3 zr_144_11 rfl ?_
        refine zw_16 zr_144_12 (by omega) ?_
        refine zw_48 (c := 70) (len := 826) zr_144_13 rfl rfl (by omega) (by omega) ?_
        intro x8 ex8
        have bx8 := ib_70_m1 hI0 (k := (((90 + (6 * i2)) + 1)).toNat) (by omega)
        rw [← ex8] at bx8
        refine zw_R zr_144_14 (by decide) zm_144 (v := (0, x8)) rfl ?_
        rw [← hQ2]
        show zW E (d - 1) 171 6 [(2, 69), (0, i2), (0, a0)] [(0, x8)] m0 Q1
        refine zw_3 zr_171_6 rfl ?_
        refine zw_41_1 zr_171_7 ?_ ?_
        · intro h9
          refine zw_push zr_171_20 ?_
          refine zw_42 zr_171_21 ?_
          refine zw_R zr_171_25 (by decide) zm_171 (v := (0, 1)) (zRetB (by omega)) ?_
          rw [← hQ1]
          show zW E (d) 200 24 [(2, 69), (0, a0), (0, a1), (0, a2), (0, i1), (0, i2)] [(0, 1), (0, i1)] m0 Q
          refine zw_40_1 zr_200_24 ?_ ?_
          · intro h10; omega
          · intro h11
            refine zw_7 zr_200_27 rfl ?_
            refine zw_4 zr_200_28 rfl ?_
            refine zw_3 zr_200_30 rfl ?_
            refine zw_C zr_200_31 (Or.inl rfl) zm_171 rfl rfl ⟨Nat.le_of_ble_eq_true rfl, Nat.le_of_ble_eq_true rfl, Nat.le_of_ble_eq_true rfl, rfl, by decide⟩ (by omega) (P := (fun v m' => zW E (d) 200 34 [(2, 69), (0, a0), (0, a1), (0, a2), (0, i1), (0, i2)] (if v.1 = 9 then [(0, i1)] else v :: [(0, i1)]) m' Q)) ?_ (fun _ _ h => h)
            generalize hQ1 : (fun v m' => zW E (d) 200 34 [(2, 69), (0, a0), (0, a1), (0, a2), (0, i1), (0, i2)] (if v.1 = 9 then [(0, i1)] else v :: [(0, i1)]) m' Q) = Q1
            show zW E (d - 1) 171 0 [(2, 69), (0, i2), (0, a1)] [] m0 Q1
            refine zw_7 zr_171_0 rfl ?_
            refine zw_3 zr_171_1 rfl ?_
            refine zw_push zr_171_2 ?_
            refine zw_C zr_171_3 (Or.inl rfl) zm_144 rfl rfl ⟨Nat.le_of_ble_eq_true rfl, Nat.le_of_ble_eq_true rfl, Nat.le_of_ble_eq_true rfl, rfl, by decide⟩ (by omega) (P := (fun v m' => zW E (d - 1) 171 6 [(2, 69), (0, i2), (0, a1)] (if v.1 = 9 then [] else v :: []) m' Q1)) ?_ (fun _ _ h => h)
            generalize hQ2 : (fun v m' => zW E (d - 1) 171 6 [(2, 69), (0, i2), (0, a1)] (if v.1 = 9 then [] else v :: []) m' Q1) = Q2
            show zW E (d - 1 - 1) 144 0 [(2, 69), (0, i2), (0, 1)] [] m0 Q2
            refine zw_7 zr_144_0 rfl ?_
            refine zw_46r (s := 70) zr_144_1 rfl rfl rfl rfl ?_
            refine zw_push zr_144_4 ?_
            refine zw_push zr_144_6 ?_
            refine zw_3 zr_144_8 rfl ?_
            refine zw_18 zr_144_9 (by omega) ?_
            refine zw_16 zr_144_10 (by omega) ?_
            refine zw_3 zr_144_11 rfl ?_
            refine zw_16 zr_144_12 (by omega) ?_
            refine zw_48k (c := 70) (len := 826) zr_144_13 rfl rfl (by omega) (by omega) rfl ex8.symm ?_
            refine zw_R zr_144_14 (by decide) zm_144 (v := (0, x8)) rfl ?_
            rw [← hQ2]
            show zW E (d - 1) 171 6 [(2, 69), (0, i2), (0, a1)] [(0, x8)] m0 Q1
            refine zw_3 zr_171_6 rfl ?_
            refine zw_41_1 zr_171_7 ?_ ?_
            · intro h12
              refine zw_push zr_171_20 ?_
              refine zw_42 zr_171_21 ?_
              refine zw_R zr_171_25 (by decide) zm_171 (v := (0, 1)) (zRetB (by omega)) ?_
              rw [← hQ1]
              show zW E (d) 200 34 [(2, 69), (0, a0), (0, a1), (0, a2), (0, i1), (0, i2)] [(0, 1), (0, i1)] m0 Q
              refine zw_40_1 zr_200_34 ?_ ?_
              · intro h13; omega
              · intro h14
                refine zw_3 zr_200_37 rfl ?_
                refine zw_40_1 zr_200_38 ?_ ?_
                · intro h15
                  refine zw_push zr_200_52 ?_
                  refine zw_42 zr_200_53 ?_
                  refine zw_16h zr_200_57 ?_
                  intro x16 hx16a hx16b
                  refine zw_10 (L' := [(2, 69), (0, a0), (0, a1), (0, a2), (0, x16), (0, i2)]) zr_200_58 (Nat.le_of_ble_eq_true rfl) rfl ?_
                  refine zw_15 (c := 1) (L' := [(2, 69), (0, a0), (0, a1), (0, a2), (0, x16), (0, (i2 + 1))]) zr_200_60 rfl (by decide) (by omega) rfl ?_
                  refine zw_42 zr_200_63 ?_
                  exact zw_less (L := [(2, 69), (0, a0), (0, a1), (0, a2), (0, x16), (0, (i2 + 1))]) ⟨Or.inr rfl, Or.inr rfl, Or.inr rfl, Or.inr rfl, Or.inr rfl, Or.inr rfl, trivial⟩ (ihlp6_3 (x16) ((i2 + 1))  (by omega) (by omega) (by omega) (by omega)  (by omega))
                · intro h17
                  refine zw_7 zr_200_41 rfl ?_
                  refine zw_4 zr_200_42 rfl ?_
                  refine zw_push zr_200_44 ?_
                  refine zw_C zr_200_45 (Or.inl rfl) zm_144 rfl rfl ⟨Nat.le_of_ble_eq_true rfl, Nat.le_of_ble_eq_true rfl, Nat.le_of_ble_eq_true rfl, rfl, by decide⟩ (by omega) (P := (fun v m' => zW E (d) 200 48 [(2, 69), (0, a0), (0, a1), (0, a2), (0, i1), (0, i2)] (if v.1 = 9 then [(0, i1)] else v :: [(0, i1)]) m' Q)) ?_ (fun _ _ h => h)
                  generalize hQ1 : (fun v m' => zW E (d) 200 48 [(2, 69), (0, a0), (0, a1), (0, a2), (0, i1), (0, i2)] (if v.1 = 9 then [(0, i1)] else v :: [(0, i1)]) m' Q) = Q1
                  show zW E (d - 1) 144 0 [(2, 69), (0, i2), (0, 3)] [] m0 Q1
                  refine zw_7 zr_144_0 rfl ?_
                  refine zw_46r (s := 70) zr_144_1 rfl rfl rfl rfl ?_
                  refine zw_push zr_144_4 ?_
                  refine zw_push zr_144_6 ?_
                  refine zw_3 zr_144_8 rfl ?_
                  refine zw_18 zr_144_9 (by omega) ?_
                  refine zw_16 zr_144_10 (by omega) ?_
                  refine zw_3 zr_144_11 rfl ?_
                  refine zw_16 zr_144_12 (by omega) ?_
                  refine zw_48 (c := 70) (len := 826) zr_144_13 rfl rfl (by omega) (by omega) ?_
                  intro x18 ex18
                  have bx18 := ib_70_m3 hI0 (k := (((90 + (6 * i2)) + 3)).toNat) (by omega)
                  rw [← ex18] at bx18
                  clear ex18
                  refine zw_R zr_144_14 (by decide) zm_144 (v := (0, x18)) rfl ?_
                  rw [← hQ1]
                  show zW E (d) 200 48 [(2, 69), (0, a0), (0, a1), (0, a2), (0, i1), (0, i2)] [(0, x18), (0, i1)] m0 Q
                  refine zw_push zr_200_48 ?_
                  refine zw_41_4 zr_200_49 ?_ ?_
                  · intro h19
                    refine zw_push zr_200_56 ?_
                    refine zw_16 zr_200_57 (by omega) ?_
                    refine zw_10 (L' := [(2, 69), (0, a0), (0, a1), (0, a2), (0, (i1 + 0)), (0, i2)]) zr_200_58 (Nat.le_of_ble_eq_true rfl) rfl ?_
                    refine zw_15 (c := 1) (L' := [(2, 69), (0, a0), (0, a1), (0, a2), (0, (i1 + 0)), (0, (i2 + 1))]) zr_200_60 rfl (by decide) (by omega) rfl ?_
                    refine zw_42 zr_200_63 ?_
                    exact zw_less (L := [(2, 69), (0, a0), (0, a1), (0, a2), (0, (i1 + 0)), (0, (i2 + 1))]) ⟨Or.inr rfl, Or.inr rfl, Or.inr rfl, Or.inr rfl, Or.inr rfl, Or.inr rfl, trivial⟩ (ihlp6_3 ((i1 + 0)) ((i2 + 1))  (by omega) (by omega) (by omega) (by omega)  (by omega))
                  · intro h20
                    refine zw_push zr_200_52 ?_
                    refine zw_42 zr_200_53 ?_
                    refine zw_16h zr_200_57 ?_
                    intro x21 hx21a hx21b
                    refine zw_10 (L' := [(2, 69), (0, a0), (0, a1), (0, a2), (0, x21), (0, i2)]) zr_200_58 (Nat.le_of_ble_eq_true rfl) rfl ?_
                    refine zw_15 (c := 1) (L' := [(2, 69), (0, a0), (0, a1), (0, a2), (0, x21), (0, (i2 + 1))]) zr_200_60 rfl (by decide) (by omega) rfl ?_
                    refine zw_42 zr_200_63 ?_
                    exact zw_less (L := [(2, 69), (0, a0), (0, a1), (0, a2), (0, x21), (0, (i2 + 1))]) ⟨Or.inr rfl, Or.inr rfl, Or.inr rfl, Or.inr rfl, Or.inr rfl, Or.inr rfl, trivial⟩ (ihlp6_3 (x21) ((i2 + 1))  (by omega) (by omega) (by omega) (by omega)  (by omega))
            · intro h22
              refine zw_7 zr_171_10 rfl ?_
              refine zw_3 zr_171_11 rfl ?_
              refine zw_push zr_171_12 ?_
              refine zw_C zr_171_13 (Or.inl rfl) zm_144 rfl rfl ⟨Nat.le_of_ble_eq_true rfl, Nat.le_of_ble_eq_true rfl, Nat.le_of_ble_eq_true rfl, rfl, by decide⟩ (by omega) (P := (fun v m' => zW E (d - 1) 171 16 [(2, 69), (0, i2), (0, a1)] (if v.1 = 9 then [] else v :: []) m' Q1)) ?_ (fun _ _ h => h)
              generalize hQ2 : (fun v m' => zW E (d - 1) 171 16 [(2, 69), (0, i2), (0, a1)] (if v.1 = 9 then [] else v :: []) m' Q1) = Q2
              show zW E (d - 1 - 1) 144 0 [(2, 69), (0, i2), (0, 2)] [] m0 Q2
              refine zw_7 zr_144_0 rfl ?_
              refine zw_46r (s := 70) zr_144_1 rfl rfl rfl rfl ?_
              refine zw_push zr_144_4 ?_
              refine zw_push zr_144_6 ?_
              refine zw_3 zr_144_8 rfl ?_
              refine zw_18 zr_144_9 (by omega) ?_
              refine zw_16 zr_144_10 (by omega) ?_
              refine zw_3 zr_144_11 rfl ?_
              refine zw_16 zr_144_12 (by omega) ?_
              refine zw_48 (c := 70) (len := 826) zr_144_13 rfl rfl (by omega) (by omega) ?_
              intro x23 ex23
              have bx23 := ib_70_m2 hI0 (k := (((90 + (6 * i2)) + 2)).toNat) (by omega)
              rw [← ex23] at bx23
              refine zw_R zr_144_14 (by decide) zm_144 (v := (0, x23)) rfl ?_
              rw [← hQ2]
              show zW E (d - 1) 171 16 [(2, 69), (0, i2), (0, a1)] [(0, x23)] m0 Q1
              refine zw_3 zr_171_16 rfl ?_
              refine zw_41_4 zr_171_17 ?_ ?_
              · intro h24
                refine zw_push zr_171_24 ?_
                refine zw_R zr_171_25 (by decide) zm_171 (v := (0, 0)) (zRetB (by omega)) ?_
                rw [← hQ1]
                show zW E (d) 200 34 [(2, 69), (0, a0), (0, a1), (0, a2), (0, i1), (0, i2)] [(0, 0), (0, i1)] m0 Q
                refine zw_40_1 zr_200_34 ?_ ?_
                · intro h25
                  refine zw_push zr_200_56 ?_
                  refine zw_16 zr_200_57 (by omega) ?_
                  refine zw_10 (L' := [(2, 69), (0, a0), (0, a1), (0, a2), (0, (i1 + 0)), (0, i2)]) zr_200_58 (Nat.le_of_ble_eq_true rfl) rfl ?_
                  refine zw_15 (c := 1) (L' := [(2, 69), (0, a0), (0, a1), (0, a2), (0, (i1 + 0)), (0, (i2 + 1))]) zr_200_60 rfl (by decide) (by omega) rfl ?_
                  refine zw_42 zr_200_63 ?_
                  exact zw_less (L := [(2, 69), (0, a0), (0, a1), (0, a2), (0, (i1 + 0)), (0, (i2 + 1))]) ⟨Or.inr rfl, Or.inr rfl, Or.inr rfl, Or.inr rfl, Or.inr rfl, Or.inr rfl, trivial⟩ (ihlp6_3 ((i1 + 0)) ((i2 + 1))  (by omega) (by omega) (by omega) (by omega)  (by omega))
                · intro h26; omega
              · intro h27
                refine zw_push zr_171_20 ?_
                refine zw_42 zr_171_21 ?_
                refine zw_R zr_171_25 (by decide) zm_171 (v := (0, 1)) (zRetB (by omega)) ?_
                rw [← hQ1]
                show zW E (d) 200 34 [(2, 69), (0, a0), (0, a1), (0, a2), (0, i1), (0, i2)] [(0, 1), (0, i1)] m0 Q
                refine zw_40_1 zr_200_34 ?_ ?_
                · intro h28; omega
                · intro h29
                  refine zw_3 zr_200_37 rfl ?_
                  refine zw_40_1 zr_200_38 ?_ ?_
                  · intro h30
                    refine zw_push zr_200_52 ?_
                    refine zw_42 zr_200_53 ?_
                    refine zw_16h zr_200_57 ?_
                    intro x31 hx31a hx31b
                    refine zw_10 (L' := [(2, 69), (0, a0), (0, a1), (0, a2), (0, x31), (0, i2)]) zr_200_58 (Nat.le_of_ble_eq_true rfl) rfl ?_
                    refine zw_15 (c := 1) (L' := [(2, 69), (0, a0), (0, a1), (0, a2), (0, x31), (0, (i2 + 1))]) zr_200_60 rfl (by decide) (by omega) rfl ?_
                    refine zw_42 zr_200_63 ?_
                    exact zw_less (L := [(2, 69), (0, a0), (0, a1), (0, a2), (0, x31), (0, (i2 + 1))]) ⟨Or.inr rfl, Or.inr rfl, Or.inr rfl, Or.inr rfl, Or.inr rfl, Or.inr rfl, trivial⟩ (ihlp6_3 (x31) ((i2 + 1))  (by omega) (by omega) (by omega) (by omega)  (by omega))
                  · intro h32
                    refine zw_7 zr_200_41 rfl ?_
                    refine zw_4 zr_200_42 rfl ?_
                    refine zw_push zr_200_44 ?_
                    refine zw_C zr_200_45 (Or.inl rfl) zm_144 rfl rfl ⟨Nat.le_of_ble_eq_true rfl, Nat.le_of_ble_eq_true rfl, Nat.le_of_ble_eq_true rfl, rfl, by decide⟩ (by omega) (P := (fun v m' => zW E (d) 200 48 [(2, 69), (0, a0), (0, a1), (0, a2), (0, i1), (0, i2)] (if v.1 = 9 then [(0, i1)] else v :: [(0, i1)]) m' Q)) ?_ (fun _ _ h => h)
                    generalize hQ1 : (fun v m' => zW E (d) 200 48 [(2, 69), (0, a0), (0, a1), (0, a2), (0, i1), (0, i2)] (if v.1 = 9 then [(0, i1)] else v :: [(0, i1)]) m' Q) = Q1
                    show zW E (d - 1) 144 0 [(2, 69), (0, i2), (0, 3)] [] m0 Q1
                    refine zw_7 zr_144_0 rfl ?_
                    refine zw_46r (s := 70) zr_144_1 rfl rfl rfl rfl ?_
                    refine zw_push zr_144_4 ?_
                    refine zw_push zr_144_6 ?_
                    refine zw_3 zr_144_8 rfl ?_
                    refine zw_18 zr_144_9 (by omega) ?_
                    refine zw_16 zr_144_10 (by omega) ?_
                    refine zw_3 zr_144_11 rfl ?_
                    refine zw_16 zr_144_12 (by omega) ?_
                    refine zw_48 (c := 70) (len := 826) zr_144_13 rfl rfl (by omega) (by omega) ?_
                    intro x33 ex33
                    have bx33 := ib_70_m3 hI0 (k := (((90 + (6 * i2)) + 3)).toNat) (by omega)
                    rw [← ex33] at bx33
                    clear ex33
                    refine zw_R zr_144_14 (by decide) zm_144 (v := (0, x33)) rfl ?_
                    rw [← hQ1]
                    show zW E (d) 200 48 [(2, 69), (0, a0), (0, a1), (0, a2), (0, i1), (0, i2)] [(0, x33), (0, i1)] m0 Q
                    refine zw_push zr_200_48 ?_
                    refine zw_41_4 zr_200_49 ?_ ?_
                    · intro h34
                      refine zw_push zr_200_56 ?_
                      refine zw_16 zr_200_57 (by omega) ?_
                      refine zw_10 (L' := [(2, 69), (0, a0), (0, a1), (0, a2), (0, (i1 + 0)), (0, i2)]) zr_200_58 (Nat.le_of_ble_eq_true rfl) rfl ?_
                      refine zw_15 (c := 1) (L' := [(2, 69), (0, a0), (0, a1), (0, a2), (0, (i1 + 0)), (0, (i2 + 1))]) zr_200_60 rfl (by decide) (by omega) rfl ?_
                      refine zw_42 zr_200_63 ?_
                      exact zw_less (L := [(2, 69), (0, a0), (0, a1), (0, a2), (0, (i1 + 0)), (0, (i2 + 1))]) ⟨Or.inr rfl, Or.inr rfl, Or.inr rfl, Or.inr rfl, Or.inr rfl, Or.inr rfl, trivial⟩ (ihlp6_3 ((i1 + 0)) ((i2 + 1))  (by omega) (by omega) (by omega) (by omega)  (by omega))
                    · intro h35
                      refine zw_push zr_200_52 ?_
                      refine zw_42 zr_200_53 ?_
                      refine zw_16h zr_200_57 ?_
                      intro x36 hx36a hx36b
                      refine zw_10 (L' := [(2, 69), (0, a0), (0, a1), (0, a2), (0, x36), (0, i2)]) zr_200_58 (Nat.le_of_ble_eq_true rfl) rfl ?_
                      refine zw_15 (c := 1) (L' := [(2, 69), (0, a0), (0, a1), (0, a2), (0, x36), (0, (i2 + 1))]) zr_200_60 rfl (by decide) (by omega) rfl ?_
                      refine zw_42 zr_200_63 ?_
                      exact zw_less (L := [(2, 69), (0, a0), (0, a1), (0, a2), (0, x36), (0, (i2 + 1))]) ⟨Or.inr rfl, Or.inr rfl, Or.inr rfl, Or.inr rfl, Or.inr rfl, Or.inr rfl, trivial⟩ (ihlp6_3 (x36) ((i2 + 1))  (by omega) (by omega) (by omega) (by omega)  (by omega))
        · intro h37
          refine zw_7 zr_171_10 rfl ?_
          refine zw_3 zr_171_11 rfl ?_
          refine zw_push zr_171_12 ?_
          refine zw_C zr_171_13 (Or.inl rfl) zm_144 rfl rfl ⟨Nat.le_of_ble_eq_true rfl, Nat.le_of_ble_eq_true rfl, Nat.le_of_ble_eq_true rfl, rfl, by decide⟩ (by omega) (P := (fun v m' => zW E (d - 1) 171 16 [(2, 69), (0, i2), (0, a0)] (if v.1 = 9 then [] else v :: []) m' Q1)) ?_ (fun _ _ h => h)
          generalize hQ2 : (fun v m' => zW E (d - 1) 171 16 [(2, 69), (0, i2), (0, a0)] (if v.1 = 9 then [] else v :: []) m' Q1) = Q2
          show zW E (d - 1 - 1) 144 0 [(2, 69), (0, i2), (0, 2)] [] m0 Q2
          refine zw_7 zr_144_0 rfl ?_
          refine zw_46r (s := 70) zr_144_1 rfl rfl rfl rfl ?_
          refine zw_push zr_144_4 ?_
          refine zw_push zr_144_6 ?_
          refine zw_3 zr_144_8 rfl ?_
          refine zw_18 zr_144_9 (by omega) ?_
          refine zw_16 zr_144_10 (by omega) ?_
          refine zw_3 zr_144_11 rfl ?_
          refine zw_16 zr_144_12 (by omega) ?_
          refine zw_48 (c := 70) (len := 826) zr_144_13 rfl rfl (by omega) (by omega) ?_
          intro x38 ex38
          have bx38 := ib_70_m2 hI0 (k := (((90 + (6 * i2)) + 2)).toNat) (by omega)
          rw [← ex38] at bx38
          refine zw_R zr_144_14 (by decide) zm_144 (v := (0, x38)) rfl ?_
          rw [← hQ2]
          show zW E (d - 1) 171 16 [(2, 69), (0, i2), (0, a0)] [(0, x38)] m0 Q1
          refine zw_3 zr_171_16 rfl ?_
          refine zw_41_4 zr_171_17 ?_ ?_
          · intro h39
            refine zw_push zr_171_24 ?_
            refine zw_R zr_171_25 (by decide) zm_171 (v := (0, 0)) (zRetB (by omega)) ?_
            rw [← hQ1]
            show zW E (d) 200 24 [(2, 69), (0, a0), (0, a1), (0, a2), (0, i1), (0, i2)] [(0, 0), (0, i1)] m0 Q
            refine zw_40_1 zr_200_24 ?_ ?_
            · intro h40
              refine zw_push zr_200_56 ?_
              refine zw_16 zr_200_57 (by omega) ?_
              refine zw_10 (L' := [(2, 69), (0, a0), (0, a1), (0, a2), (0, (i1 + 0)), (0, i2)]) zr_200_58 (Nat.le_of_ble_eq_true rfl) rfl ?_
              refine zw_15 (c := 1) (L' := [(2, 69), (0, a0), (0, a1), (0, a2), (0, (i1 + 0)), (0, (i2 + 1))]) zr_200_60 rfl (by decide) (by omega) rfl ?_
              refine zw_42 zr_200_63 ?_
              exact zw_less (L := [(2, 69), (0, a0), (0, a1), (0, a2), (0, (i1 + 0)), (0, (i2 + 1))]) ⟨Or.inr rfl, Or.inr rfl, Or.inr rfl, Or.inr rfl, Or.inr rfl, Or.inr rfl, trivial⟩ (ihlp6_3 ((i1 + 0)) ((i2 + 1))  (by omega) (by omega) (by omega) (by omega)  (by omega))
            · intro h41; omega
          · intro h42
            refine zw_push zr_171_20 ?_
            refine zw_42 zr_171_21 ?_
            refine zw_R zr_171_25 (by decide) zm_171 (v := (0, 1)) (zRetB (by omega)) ?_
            rw [← hQ1]
            show zW E (d) 200 24 [(2, 69), (0, a0), (0, a1), (0, a2), (0, i1), (0, i2)] [(0, 1), (0, i1)] m0 Q
            refine zw_40_1 zr_200_24 ?_ ?_
            · intro h43; omega
            · intro h44
              refine zw_7 zr_200_27 rfl ?_
              refine zw_4 zr_200_28 rfl ?_
              refine zw_3 zr_200_30 rfl ?_
              refine zw_C zr_200_31 (Or.inl rfl) zm_171 rfl rfl ⟨Nat.le_of_ble_eq_true rfl, Nat.le_of_ble_eq_true rfl, Nat.le_of_ble_eq_true rfl, rfl, by decide⟩ (by omega) (P := (fun v m' => zW E (d) 200 34 [(2, 69), (0, a0), (0, a1), (0, a2), (0, i1), (0, i2)] (if v.1 = 9 then [(0, i1)] else v :: [(0, i1)]) m' Q)) ?_ (fun _ _ h => h)
              generalize hQ1 : (fun v m' => zW E (d) 200 34 [(2, 69), (0, a0), (0, a1), (0, a2), (0, i1), (0, i2)] (if v.1 = 9 then [(0, i1)] else v :: [(0, i1)]) m' Q) = Q1
              show zW E (d - 1) 171 0 [(2, 69), (0, i2), (0, a1)] [] m0 Q1
              refine zw_7 zr_171_0 rfl ?_
              refine zw_3 zr_171_1 rfl ?_
              refine zw_push zr_171_2 ?_
              refine zw_C zr_171_3 (Or.inl rfl) zm_144 rfl rfl ⟨Nat.le_of_ble_eq_true rfl, Nat.le_of_ble_eq_true rfl, Nat.le_of_ble_eq_true rfl, rfl, by decide⟩ (by omega) (P := (fun v m' => zW E (d - 1) 171 6 [(2, 69), (0, i2), (0, a1)] (if v.1 = 9 then [] else v :: []) m' Q1)) ?_ (fun _ _ h => h)
              generalize hQ2 : (fun v m' => zW E (d - 1) 171 6 [(2, 69), (0, i2), (0, a1)] (if v.1 = 9 then [] else v :: []) m' Q1) = Q2
              show zW E (d - 1 - 1) 144 0 [(2, 69), (0, i2), (0, 1)] [] m0 Q2
              refine zw_7 zr_144_0 rfl ?_
              refine zw_46r (s := 70) zr_144_1 rfl rfl rfl rfl ?_
              refine zw_push zr_144_4 ?_
              refine zw_push zr_144_6 ?_
              refine zw_3 zr_144_8 rfl ?_
              refine zw_18 zr_144_9 (by omega) ?_
              refine zw_16 zr_144_10 (by omega) ?_
              refine zw_3 zr_144_11 rfl ?_
              refine zw_16 zr_144_12 (by omega) ?_
              refine zw_48k (c := 70) (len := 826) zr_144_13 rfl rfl (by omega) (by omega) rfl ex8.symm ?_
              refine zw_R zr_144_14 (by decide) zm_144 (v := (0, x8)) rfl ?_
              rw [← hQ2]
              show zW E (d - 1) 171 6 [(2, 69), (0, i2), (0, a1)] [(0, x8)] m0 Q1
              refine zw_3 zr_171_6 rfl ?_
              refine zw_41_1 zr_171_7 ?_ ?_
              · intro h45
                refine zw_push zr_171_20 ?_
                refine zw_42 zr_171_21 ?_
                refine zw_R zr_171_25 (by decide) zm_171 (v := (0, 1)) (zRetB (by omega)) ?_
                rw [← hQ1]
                show zW E (d) 200 34 [(2, 69), (0, a0), (0, a1), (0, a2), (0, i1), (0, i2)] [(0, 1), (0, i1)] m0 Q
                refine zw_40_1 zr_200_34 ?_ ?_
                · intro h46; omega
                · intro h47
                  refine zw_3 zr_200_37 rfl ?_
                  refine zw_40_1 zr_200_38 ?_ ?_
                  · intro h48
                    refine zw_push zr_200_52 ?_
                    refine zw_42 zr_200_53 ?_
                    refine zw_16h zr_200_57 ?_
                    intro x49 hx49a hx49b
                    refine zw_10 (L' := [(2, 69), (0, a0), (0, a1), (0, a2), (0, x49), (0, i2)]) zr_200_58 (Nat.le_of_ble_eq_true rfl) rfl ?_
                    refine zw_15 (c := 1) (L' := [(2, 69), (0, a0), (0, a1), (0, a2), (0, x49), (0, (i2 + 1))]) zr_200_60 rfl (by decide) (by omega) rfl ?_
                    refine zw_42 zr_200_63 ?_
                    exact zw_less (L := [(2, 69), (0, a0), (0, a1), (0, a2), (0, x49), (0, (i2 + 1))]) ⟨Or.inr rfl, Or.inr rfl, Or.inr rfl, Or.inr rfl, Or.inr rfl, Or.inr rfl, trivial⟩ (ihlp6_3 (x49) ((i2 + 1))  (by omega) (by omega) (by omega) (by omega)  (by omega))
                  · intro h50
                    refine zw_7 zr_200_41 rfl ?_
                    refine zw_4 zr_200_42 rfl ?_
                    refine zw_push zr_200_44 ?_
                    refine zw_C zr_200_45 (Or.inl rfl) zm_144 rfl rfl ⟨Nat.le_of_ble_eq_true rfl, Nat.le_of_ble_eq_true rfl, Nat.le_of_ble_eq_true rfl, rfl, by decide⟩ (by omega) (P := (fun v m' => zW E (d) 200 48 [(2, 69), (0, a0), (0, a1), (0, a2), (0, i1), (0, i2)] (if v.1 = 9 then [(0, i1)] else v :: [(0, i1)]) m' Q)) ?_ (fun _ _ h => h)
                    generalize hQ1 : (fun v m' => zW E (d) 200 48 [(2, 69), (0, a0), (0, a1), (0, a2), (0, i1), (0, i2)] (if v.1 = 9 then [(0, i1)] else v :: [(0, i1)]) m' Q) = Q1
                    show zW E (d - 1) 144 0 [(2, 69), (0, i2), (0, 3)] [] m0 Q1
                    refine zw_7 zr_144_0 rfl ?_
                    refine zw_46r (s := 70) zr_144_1 rfl rfl rfl rfl ?_
                    refine zw_push zr_144_4 ?_
                    refine zw_push zr_144_6 ?_
                    refine zw_3 zr_144_8 rfl ?_
                    refine zw_18 zr_144_9 (by omega) ?_
                    refine zw_16 zr_144_10 (by omega) ?_
                    refine zw_3 zr_144_11 rfl ?_
                    refine zw_16 zr_144_12 (by omega) ?_
                    refine zw_48 (c := 70) (len := 826) zr_144_13 rfl rfl (by omega) (by omega) ?_
                    intro x51 ex51
                    have bx51 := ib_70_m3 hI0 (k := (((90 + (6 * i2)) + 3)).toNat) (by omega)
                    rw [← ex51] at bx51
                    clear ex51
                    refine zw_R zr_144_14 (by decide) zm_144 (v := (0, x51)) rfl ?_
                    rw [← hQ1]
                    show zW E (d) 200 48 [(2, 69), (0, a0), (0, a1), (0, a2), (0, i1), (0, i2)] [(0, x51), (0, i1)] m0 Q
                    refine zw_push zr_200_48 ?_
                    refine zw_41_4 zr_200_49 ?_ ?_
                    · intro h52
                      refine zw_push zr_200_56 ?_
                      refine zw_16 zr_200_57 (by omega) ?_
                      refine zw_10 (L' := [(2, 69), (0, a0), (0, a1), (0, a2), (0, (i1 + 0)), (0, i2)]) zr_200_58 (Nat.le_of_ble_eq_true rfl) rfl ?_
                      refine zw_15 (c := 1) (L' := [(2, 69), (0, a0), (0, a1), (0, a2), (0, (i1 + 0)), (0, (i2 + 1))]) zr_200_60 rfl (by decide) (by omega) rfl ?_
                      refine zw_42 zr_200_63 ?_
                      exact zw_less (L := [(2, 69), (0, a0), (0, a1), (0, a2), (0, (i1 + 0)), (0, (i2 + 1))]) ⟨Or.inr rfl, Or.inr rfl, Or.inr rfl, Or.inr rfl, Or.inr rfl, Or.inr rfl, trivial⟩ (ihlp6_3 ((i1 + 0)) ((i2 + 1))  (by omega) (by omega) (by omega) (by omega)  (by omega))
                    · intro h53
                      refine zw_push zr_200_52 ?_
                      refine zw_42 zr_200_53 ?_
                      refine zw_16h zr_200_57 ?_
                      intro x54 hx54a hx54b
                      refine zw_10 (L' := [(2, 69), (0, a0), (0, a1), (0, a2), (0, x54), (0, i2)]) zr_200_58 (Nat.le_of_ble_eq_true rfl) rfl ?_
                      refine zw_15 (c := 1) (L' := [(2, 69), (0, a0), (0, a1), (0, a2), (0, x54), (0, (i2 + 1))]) zr_200_60 rfl (by decide) (by omega) rfl ?_
                      refine zw_42 zr_200_63 ?_
                      exact zw_less (L := [(2, 69), (0, a0), (0, a1), (0, a2), (0, x54), (0, (i2 + 1))]) ⟨Or.inr rfl, Or.inr rfl, Or.inr rfl, Or.inr rfl, Or.inr rfl, Or.inr rfl, trivial⟩ (ihlp6_3 (x54) ((i2 + 1))  (by omega) (by omega) (by omega) (by omega)  (by omega))
              · intro h55
                refine zw_7 zr_171_10 rfl ?_
                refine zw_3 zr_171_11 rfl ?_
                refine zw_push zr_171_12 ?_
                refine zw_C zr_171_13 (Or.inl rfl) zm_144 rfl rfl ⟨Nat.le_of_ble_eq_true rfl, Nat.le_of_ble_eq_true rfl, Nat.le_of_ble_eq_true rfl, rfl, by decide⟩ (by omega) (P := (fun v m' => zW E (d - 1) 171 16 [(2, 69), (0, i2), (0, a1)] (if v.1 = 9 then [] else v :: []) m' Q1)) ?_ (fun _ _ h => h)
                generalize hQ2 : (fun v m' => zW E (d - 1) 171 16 [(2, 69), (0, i2), (0, a1)] (if v.1 = 9 then [] else v :: []) m' Q1) = Q2
                show zW E (d - 1 - 1) 144 0 [(2, 69), (0, i2), (0, 2)] [] m0 Q2
                refine zw_7 zr_144_0 rfl ?_
                refine zw_46r (s := 70) zr_144_1 rfl rfl rfl rfl ?_
                refine zw_push zr_144_4 ?_
                refine zw_push zr_144_6 ?_
                refine zw_3 zr_144_8 rfl ?_
                refine zw_18 zr_144_9 (by omega) ?_
                refine zw_16 zr_144_10 (by omega) ?_
                refine zw_3 zr_144_11 rfl ?_
                refine zw_16 zr_144_12 (by omega) ?_
                refine zw_48k (c := 70) (len := 826) zr_144_13 rfl rfl (by omega) (by omega) rfl ex38.symm ?_
                refine zw_R zr_144_14 (by decide) zm_144 (v := (0, x38)) rfl ?_
                rw [← hQ2]
                show zW E (d - 1) 171 16 [(2, 69), (0, i2), (0, a1)] [(0, x38)] m0 Q1
                refine zw_3 zr_171_16 rfl ?_
                refine zw_41_4 zr_171_17 ?_ ?_
                · intro h56
                  refine zw_push zr_171_24 ?_
                  refine zw_R zr_171_25 (by decide) zm_171 (v := (0, 0)) (zRetB (by omega)) ?_
                  rw [← hQ1]
                  show zW E (d) 200 34 [(2, 69), (0, a0), (0, a1), (0, a2), (0, i1), (0, i2)] [(0, 0), (0, i1)] m0 Q
                  refine zw_40_1 zr_200_34 ?_ ?_
                  · intro h57
                    refine zw_push zr_200_56 ?_
                    refine zw_16 zr_200_57 (by omega) ?_
                    refine zw_10 (L' := [(2, 69), (0, a0), (0, a1), (0, a2), (0, (i1 + 0)), (0, i2)]) zr_200_58 (Nat.le_of_ble_eq_true rfl) rfl ?_
                    refine zw_15 (c := 1) (L' := [(2, 69), (0, a0), (0, a1), (0, a2), (0, (i1 + 0)), (0, (i2 + 1))]) zr_200_60 rfl (by decide) (by omega) rfl ?_
                    refine zw_42 zr_200_63 ?_
                    exact zw_less (L := [(2, 69), (0, a0), (0, a1), (0, a2), (0, (i1 + 0)), (0, (i2 + 1))]) ⟨Or.inr rfl, Or.inr rfl, Or.inr rfl, Or.inr rfl, Or.inr rfl, Or.inr rfl, trivial⟩ (ihlp6_3 ((i1 + 0)) ((i2 + 1))  (by omega) (by omega) (by omega) (by omega)  (by omega))
                  · intro h58; omega
                · intro h59
                  refine zw_push zr_171_20 ?_
                  refine zw_42 zr_171_21 ?_
                  refine zw_R zr_171_25 (by decide) zm_171 (v := (0, 1)) (zRetB (by omega)) ?_
                  rw [← hQ1]
                  show zW E (d) 200 34 [(2, 69), (0, a0), (0, a1), (0, a2), (0, i1), (0, i2)] [(0, 1), (0, i1)] m0 Q
                  refine zw_40_1 zr_200_34 ?_ ?_
                  · intro h60; omega
                  · intro h61
                    refine zw_3 zr_200_37 rfl ?_
                    refine zw_40_1 zr_200_38 ?_ ?_
                    · intro h62
                      refine zw_push zr_200_52 ?_
                      refine zw_42 zr_200_53 ?_
                      refine zw_16h zr_200_57 ?_
                      intro x63 hx63a hx63b
                      refine zw_10 (L' := [(2, 69), (0, a0), (0, a1), (0, a2), (0, x63), (0, i2)]) zr_200_58 (Nat.le_of_ble_eq_true rfl) rfl ?_
                      refine zw_15 (c := 1) (L' := [(2, 69), (0, a0), (0, a1), (0, a2), (0, x63), (0, (i2 + 1))]) zr_200_60 rfl (by decide) (by omega) rfl ?_
                      refine zw_42 zr_200_63 ?_
                      exact zw_less (L := [(2, 69), (0, a0), (0, a1), (0, a2), (0, x63), (0, (i2 + 1))]) ⟨Or.inr rfl, Or.inr rfl, Or.inr rfl, Or.inr rfl, Or.inr rfl, Or.inr rfl, trivial⟩ (ihlp6_3 (x63) ((i2 + 1))  (by omega) (by omega) (by omega) (by omega)  (by omega))
                    · intro h64
                      refine zw_7 zr_200_41 rfl ?_
                      refine zw_4 zr_200_42 rfl ?_
                      refine zw_push zr_200_44 ?_
                      refine zw_C zr_200_45 (Or.inl rfl) zm_144 rfl rfl ⟨Nat.le_of_ble_eq_true rfl, Nat.le_of_ble_eq_true rfl, Nat.le_of_ble_eq_true rfl, rfl, by decide⟩ (by omega) (P := (fun v m' => zW E (d) 200 48 [(2, 69), (0, a0), (0, a1), (0, a2), (0, i1), (0, i2)] (if v.1 = 9 then [(0, i1)] else v :: [(0, i1)]) m' Q)) ?_ (fun _ _ h => h)
                      generalize hQ1 : (fun v m' => zW E (d) 200 48 [(2, 69), (0, a0), (0, a1), (0, a2), (0, i1), (0, i2)] (if v.1 = 9 then [(0, i1)] else v :: [(0, i1)]) m' Q) = Q1
                      show zW E (d - 1) 144 0 [(2, 69), (0, i2), (0, 3)] [] m0 Q1
                      refine zw_7 zr_144_0 rfl ?_
                      refine zw_46r (s := 70) zr_144_1 rfl rfl rfl rfl ?_
                      refine zw_push zr_144_4 ?_
                      refine zw_push zr_144_6 ?_
                      refine zw_3 zr_144_8 rfl ?_
                      refine zw_18 zr_144_9 (by omega) ?_
                      refine zw_16 zr_144_10 (by omega) ?_
                      refine zw_3 zr_144_11 rfl ?_
                      refine zw_16 zr_144_12 (by omega) ?_
                      refine zw_48 (c := 70) (len := 826) zr_144_13 rfl rfl (by omega) (by omega) ?_
                      intro x65 ex65
                      have bx65 := ib_70_m3 hI0 (k := (((90 + (6 * i2)) + 3)).toNat) (by omega)
                      rw [← ex65] at bx65
                      clear ex65
                      refine zw_R zr_144_14 (by decide) zm_144 (v := (0, x65)) rfl ?_
                      rw [← hQ1]
                      show zW E (d) 200 48 [(2, 69), (0, a0), (0, a1), (0, a2), (0, i1), (0, i2)] [(0, x65), (0, i1)] m0 Q
                      refine zw_push zr_200_48 ?_
                      refine zw_41_4 zr_200_49 ?_ ?_
                      · intro h66
                        refine zw_push zr_200_56 ?_
                        refine zw_16 zr_200_57 (by omega) ?_
                        refine zw_10 (L' := [(2, 69), (0, a0), (0, a1), (0, a2), (0, (i1 + 0)), (0, i2)]) zr_200_58 (Nat.le_of_ble_eq_true rfl) rfl ?_
                        refine zw_15 (c := 1) (L' := [(2, 69), (0, a0), (0, a1), (0, a2), (0, (i1 + 0)), (0, (i2 + 1))]) zr_200_60 rfl (by decide) (by omega) rfl ?_
                        refine zw_42 zr_200_63 ?_
                        exact zw_less (L := [(2, 69), (0, a0), (0, a1), (0, a2), (0, (i1 + 0)), (0, (i2 + 1))]) ⟨Or.inr rfl, Or.inr rfl, Or.inr rfl, Or.inr rfl, Or.inr rfl, Or.inr rfl, trivial⟩ (ihlp6_3 ((i1 + 0)) ((i2 + 1))  (by omega) (by omega) (by omega) (by omega)  (by omega))
                      · intro h67
                        refine zw_push zr_200_52 ?_
                        refine zw_42 zr_200_53 ?_
                        refine zw_16h zr_200_57 ?_
                        intro x68 hx68a hx68b
                        refine zw_10 (L' := [(2, 69), (0, a0), (0, a1), (0, a2), (0, x68), (0, i2)]) zr_200_58 (Nat.le_of_ble_eq_true rfl) rfl ?_
                        refine zw_15 (c := 1) (L' := [(2, 69), (0, a0), (0, a1), (0, a2), (0, x68), (0, (i2 + 1))]) zr_200_60 rfl (by decide) (by omega) rfl ?_
                        refine zw_42 zr_200_63 ?_
                        exact zw_less (L := [(2, 69), (0, a0), (0, a1), (0, a2), (0, x68), (0, (i2 + 1))]) ⟨Or.inr rfl, Or.inr rfl, Or.inr rfl, Or.inr rfl, Or.inr rfl, Or.inr rfl, trivial⟩ (ihlp6_3 (x68) ((i2 + 1))  (by omega) (by omega) (by omega) (by omega)  (by omega))
  exact lp6_3 _ (0) (0)  (by omega) (by omega) (by omega) (by omega)  (Nat.lt_succ_self _)

set_option maxHeartbeats 8000000 in
theorem th_201 {E : zE} {d : Nat} {m0 : zM} {a0 : Int} {a1 : Int} (hd : 1 ≤ d) (hI0 : zInv m0) (ha0 : 1 ≤ a0 ∧ a0 ≤ 9) (ha1 : (-50) ≤ a1 ∧ a1 ≤ 15) : zC E d 201 [(1, a0), (0, a1)] m0 (fun v m' => ∃ r : Int, v = (1, r) ∧ 1 ≤ r ∧ r ≤ 205891132094649 ∧ m0 = m') := by
  generalize hQ : (fun (v : zV) (m' : zM) => ∃ r : Int, v = (1, r) ∧ 1 ≤ r ∧ r ≤ 205891132094649 ∧ m0 = m') = Q
  show zW E d 201 0 [(1, a0), (9, 0), (0, a1), (9, 0), (9, 0), (9, 0)] [] m0 Q
  refine zw_push zr_201_0 ?_
  refine zw_13 (L' := [(1, a0), (9, 0), (0, a1), (1, 1), (9, 0), (9, 0)]) zr_201_1 (Nat.le_of_ble_eq_true rfl) rfl ?_
  refine zw_push zr_201_2 ?_
  refine zw_10 (L' := [(1, a0), (9, 0), (0, a1), (1, 1), (9, 0), (0, 0)]) zr_201_3 (Nat.le_of_ble_eq_true rfl) rfl ?_
  refine zw_4 zr_201_5 rfl ?_
  refine zw_3 zr_201_7 rfl ?_
  refine zw_41_3 zr_201_8 ?_ ?_
  · intro h1
    refine zw_5 zr_201_21 rfl ?_
    refine zw_R zr_201_22 (by decide) zm_201 (v := (1, 1)) rfl ?_
    rw [← hQ]; exact ⟨_, rfl, by omega, by omega, rfl⟩
  · intro h2
    refine zw_5 zr_201_11 rfl ?_
    refine zw_5 zr_201_12 rfl ?_
    refine zw_29 zr_201_13 (by omega) ?_
    refine zw_13 (L' := [(1, a0), (9, 0), (0, a1), (1, (1 * a0)), (9, 0), (0, 0)]) zr_201_14 (Nat.le_of_ble_eq_true rfl) rfl ?_
    refine zw_15 (c := 1) (L' := [(1, a0), (9, 0), (0, a1), (1, (1 * a0)), (9, 0), (0, (0 + 1))]) zr_201_15 rfl (by decide) (by omega) rfl ?_
    refine zw_42 zr_201_18 ?_
    refine zw_4 zr_201_5 rfl ?_
    refine zw_3 zr_201_7 rfl ?_
    refine zw_41_3 zr_201_8 ?_ ?_
    · intro h3
      refine zw_5 zr_201_21 rfl ?_
      refine zw_R zr_201_22 (by decide) zm_201 (v := (1, (1 * a0))) rfl ?_
      rw [← hQ]; exact ⟨_, rfl, by omega, by omega, rfl⟩
    · intro h4
      refine zw_5 zr_201_11 rfl ?_
      refine zw_5 zr_201_12 rfl ?_
      refine zw_29p (A := 9) (B := 9) zr_201_13 (by omega) (by omega) (by omega) (by omega) (by decide) ?_
      intro x5 hx5a hx5b
      refine zw_13 (L' := [(1, a0), (9, 0), (0, a1), (1, x5), (9, 0), (0, (0 + 1))]) zr_201_14 (Nat.le_of_ble_eq_true rfl) rfl ?_
      refine zw_15 (c := 1) (L' := [(1, a0), (9, 0), (0, a1), (1, x5), (9, 0), (0, ((0 + 1) + 1))]) zr_201_15 rfl (by decide) (by omega) rfl ?_
      refine zw_42 zr_201_18 ?_
      refine zw_4 zr_201_5 rfl ?_
      refine zw_3 zr_201_7 rfl ?_
      refine zw_41_3 zr_201_8 ?_ ?_
      · intro h6
        refine zw_5 zr_201_21 rfl ?_
        refine zw_R zr_201_22 (by decide) zm_201 (v := (1, x5)) rfl ?_
        rw [← hQ]; exact ⟨_, rfl, by omega, by omega, rfl⟩
      · intro h7
        refine zw_5 zr_201_11 rfl ?_
        refine zw_5 zr_201_12 rfl ?_
        refine zw_29p (A := 81) (B := 9) zr_201_13 (by omega) (by omega) (by omega) (by omega) (by decide) ?_
        intro x8 hx8a hx8b
        refine zw_13 (L' := [(1, a0), (9, 0), (0, a1), (1, x8), (9, 0), (0, ((0 + 1) + 1))]) zr_201_14 (Nat.le_of_ble_eq_true rfl) rfl ?_
        refine zw_15 (c := 1) (L' := [(1, a0), (9, 0), (0, a1), (1, x8), (9, 0), (0, (((0 + 1) + 1) + 1))]) zr_201_15 rfl (by decide) (by omega) rfl ?_
        refine zw_42 zr_201_18 ?_
        refine zw_4 zr_201_5 rfl ?_
        refine zw_3 zr_201_7 rfl ?_
        refine zw_41_3 zr_201_8 ?_ ?_
        · intro h9
          refine zw_5 zr_201_21 rfl ?_
          refine zw_R zr_201_22 (by decide) zm_201 (v := (1, x8)) rfl ?_
          rw [← hQ]; exact ⟨_, rfl, by omega, by omega, rfl⟩
        · intro h10
          refine zw_5 zr_201_11 rfl ?_
          refine zw_5 zr_201_12 rfl ?_
          refine zw_29p (A := 729) (B := 9) zr_201_13 (by omega) (by omega) (by omega) (by omega) (by decide) ?_
          intro x11 hx11a hx11b
          refine zw_13 (L' := [(1, a0), (9, 0), (0, a1), (1, x11), (9, 0), (0, (((0 + 1) + 1) + 1))]) zr_201_14 (Nat.le_of_ble_eq_true rfl) rfl ?_
          refine zw_15 (c := 1) (L' := [(1, a0), (9, 0), (0, a1), (1, x11), (9, 0), (0, ((((0 + 1) + 1) + 1) + 1))]) zr_201_15 rfl (by decide) (by omega) rfl ?_
          refine zw_42 zr_201_18 ?_
          refine zw_4 zr_201_5 rfl ?_
          refine zw_3 zr_201_7 rfl ?_
          refine zw_41_3 zr_201_8 ?_ ?_
          · intro h12
            refine zw_5 zr_201_21 rfl ?_
            refine zw_R zr_201_22 (by decide) zm_201 (v := (1, x11)) rfl ?_
            rw [← hQ]; exact ⟨_, rfl, by omega, by omega, rfl⟩
          · intro h13
            refine zw_5 zr_201_11 rfl ?_
            refine zw_5 zr_201_12 rfl ?_
            refine zw_29p (A := 6561) (B := 9) zr_201_13 (by omega) (by omega) (by omega) (by omega) (by decide) ?_
            intro x14 hx14a hx14b
            refine zw_13 (L' := [(1, a0), (9, 0), (0, a1), (1, x14), (9, 0), (0, ((((0 + 1) + 1) + 1) + 1))]) zr_201_14 (Nat.le_of_ble_eq_true rfl) rfl ?_
            refine zw_15 (c := 1) (L' := [(1, a0), (9, 0), (0, a1), (1, x14), (9, 0), (0, (((((0 + 1) + 1) + 1) + 1) + 1))]) zr_201_15 rfl (by decide) (by omega) rfl ?_
            refine zw_42 zr_201_18 ?_
            refine zw_4 zr_201_5 rfl ?_
            refine zw_3 zr_201_7 rfl ?_
            refine zw_41_3 zr_201_8 ?_ ?_
            · intro h15
              refine zw_5 zr_201_21 rfl ?_
              refine zw_R zr_201_22 (by decide) zm_201 (v := (1, x14)) rfl ?_
              rw [← hQ]; exact ⟨_, rfl, by omega, by omega, rfl⟩
            · intro h16
              refine zw_5 zr_201_11 rfl ?_
              refine zw_5 zr_201_12 rfl ?_
              refine zw_29p (A := 59049) (B := 9) zr_201_13 (by omega) (by omega) (by omega) (by omega) (by decide) ?_
              intro x17 hx17a hx17b
              refine zw_13 (L' := [(1, a0), (9, 0), (0, a1), (1, x17), (9, 0), (0, (((((0 + 1) + 1) + 1) + 1) + 1))]) zr_201_14 (Nat.le_of_ble_eq_true rfl) rfl ?_
              refine zw_15 (c := 1) (L' := [(1, a0), (9, 0), (0, a1), (1, x17), (9, 0), (0, ((((((0 + 1) + 1) + 1) + 1) + 1) + 1))]) zr_201_15 rfl (by decide) (by omega) rfl ?_
              refine zw_42 zr_201_18 ?_
              refine zw_4 zr_201_5 rfl ?_
              refine zw_3 zr_201_7 rfl ?_
              refine zw_41_3 zr_201_8 ?_ ?_
              · intro h18
                refine zw_5 zr_201_21 rfl ?_
                refine zw_R zr_201_22 (by decide) zm_201 (v := (1, x17)) rfl ?_
                rw [← hQ]; exact ⟨_, rfl, by omega, by omega, rfl⟩
              · intro h19
                refine zw_5 zr_201_11 rfl ?_
                refine zw_5 zr_201_12 rfl ?_
                refine zw_29p (A := 531441) (B := 9) zr_201_13 (by omega) (by omega) (by omega) (by omega) (by decide) ?_
                intro x20 hx20a hx20b
                refine zw_13 (L' := [(1, a0), (9, 0), (0, a1), (1, x20), (9, 0), (0, ((((((0 + 1) + 1) + 1) + 1) + 1) + 1))]) zr_201_14 (Nat.le_of_ble_eq_true rfl) rfl ?_
                refine zw_15 (c := 1) (L' := [(1, a0), (9, 0), (0, a1), (1, x20), (9, 0), (0, (((((((0 + 1) + 1) + 1) + 1) + 1) + 1) + 1))]) zr_201_15 rfl (by decide) (by omega) rfl ?_
                refine zw_42 zr_201_18 ?_
                refine zw_4 zr_201_5 rfl ?_
                refine zw_3 zr_201_7 rfl ?_
                refine zw_41_3 zr_201_8 ?_ ?_
                · intro h21
                  refine zw_5 zr_201_21 rfl ?_
                  refine zw_R zr_201_22 (by decide) zm_201 (v := (1, x20)) rfl ?_
                  rw [← hQ]; exact ⟨_, rfl, by omega, by omega, rfl⟩
                · intro h22
                  refine zw_5 zr_201_11 rfl ?_
                  refine zw_5 zr_201_12 rfl ?_
                  refine zw_29p (A := 4782969) (B := 9) zr_201_13 (by omega) (by omega) (by omega) (by omega) (by decide) ?_
                  intro x23 hx23a hx23b
                  refine zw_13 (L' := [(1, a0), (9, 0), (0, a1), (1, x23), (9, 0), (0, (((((((0 + 1) + 1) + 1) + 1) + 1) + 1) + 1))]) zr_201_14 (Nat.le_of_ble_eq_true rfl) rfl ?_
                  refine zw_15 (c := 1) (L' := [(1, a0), (9, 0), (0, a1), (1, x23), (9, 0), (0, ((((((((0 + 1) + 1) + 1) + 1) + 1) + 1) + 1) + 1))]) zr_201_15 rfl (by decide) (by omega) rfl ?_
                  refine zw_42 zr_201_18 ?_
                  refine zw_4 zr_201_5 rfl ?_
                  refine zw_3 zr_201_7 rfl ?_
                  refine zw_41_3 zr_201_8 ?_ ?_
                  · intro h24
                    refine zw_5 zr_201_21 rfl ?_
                    refine zw_R zr_201_22 (by decide) zm_201 (v := (1, x23)) rfl ?_
                    rw [← hQ]; exact ⟨_, rfl, by omega, by omega, rfl⟩
                  · intro h25
                    refine zw_5 zr_201_11 rfl ?_
                    refine zw_5 zr_201_12 rfl ?_
                    refine zw_29p (A := 43046721) (B := 9) zr_201_13 (by omega) (by omega) (by omega) (by omega) (by decide) ?_
                    intro x26 hx26a hx26b
                    refine zw_13 (L' := [(1, a0), (9, 0), (0, a1), (1, x26), (9, 0), (0, ((((((((0 + 1) + 1) + 1) + 1) + 1) + 1) + 1) + 1))]) zr_201_14 (Nat.le_of_ble_eq_true rfl) rfl ?_
                    refine zw_15 (c := 1) (L' := [(1, a0), (9, 0), (0, a1), (1, x26), (9, 0), (0, (((((((((0 + 1) + 1) + 1) + 1) + 1) + 1) + 1) + 1) + 1))]) zr_201_15 rfl (by decide) (by omega) rfl ?_
                    refine zw_42 zr_201_18 ?_
                    refine zw_4 zr_201_5 rfl ?_
                    refine zw_3 zr_201_7 rfl ?_
                    refine zw_41_3 zr_201_8 ?_ ?_
                    · intro h27
                      refine zw_5 zr_201_21 rfl ?_
                      refine zw_R zr_201_22 (by decide) zm_201 (v := (1, x26)) rfl ?_
                      rw [← hQ]; exact ⟨_, rfl, by omega, by omega, rfl⟩
                    · intro h28
                      refine zw_5 zr_201_11 rfl ?_
                      refine zw_5 zr_201_12 rfl ?_
                      refine zw_29p (A := 387420489) (B := 9) zr_201_13 (by omega) (by omega) (by omega) (by omega) (by decide) ?_
                      intro x29 hx29a hx29b
                      refine zw_13 (L' := [(1, a0), (9, 0), (0, a1), (1, x29), (9, 0), (0, (((((((((0 + 1) + 1) + 1) + 1) + 1) + 1) + 1) + 1) + 1))]) zr_201_14 (Nat.le_of_ble_eq_true rfl) rfl ?_
                      refine zw_15 (c := 1) (L' := [(1, a0), (9, 0), (0, a1), (1, x29), (9, 0), (0, ((((((((((0 + 1) + 1) + 1) + 1) + 1) + 1) + 1) + 1) + 1) + 1))]) zr_201_15 rfl (by decide) (by omega) rfl ?_
                      refine zw_42 zr_201_18 ?_
                      refine zw_4 zr_201_5 rfl ?_
                      refine zw_3 zr_201_7 rfl ?_
                      refine zw_41_3 zr_201_8 ?_ ?_
                      · intro h30
                        refine zw_5 zr_201_21 rfl ?_
                        refine zw_R zr_201_22 (by decide) zm_201 (v := (1, x29)) rfl ?_
                        rw [← hQ]; exact ⟨_, rfl, by omega, by omega, rfl⟩
                      · intro h31
                        refine zw_5 zr_201_11 rfl ?_
                        refine zw_5 zr_201_12 rfl ?_
                        refine zw_29p (A := 3486784401) (B := 9) zr_201_13 (by omega) (by omega) (by omega) (by omega) (by decide) ?_
                        intro x32 hx32a hx32b
                        refine zw_13 (L' := [(1, a0), (9, 0), (0, a1), (1, x32), (9, 0), (0, ((((((((((0 + 1) + 1) + 1) + 1) + 1) + 1) + 1) + 1) + 1) + 1))]) zr_201_14 (Nat.le_of_ble_eq_true rfl) rfl ?_
                        refine zw_15 (c := 1) (L' := [(1, a0), (9, 0), (0, a1), (1, x32), (9, 0), (0, (((((((((((0 + 1) + 1) + 1) + 1) + 1) + 1) + 1) + 1) + 1) + 1) + 1))]) zr_201_15 rfl (by decide) (by omega) rfl ?_
                        refine zw_42 zr_201_18 ?_
                        refine zw_4 zr_201_5 rfl ?_
                        refine zw_3 zr_201_7 rfl ?_
                        refine zw_41_3 zr_201_8 ?_ ?_
                        · intro h33
                          refine zw_5 zr_201_21 rfl ?_
                          refine zw_R zr_201_22 (by decide) zm_201 (v := (1, x32)) rfl ?_
                          rw [← hQ]; exact ⟨_, rfl, by omega, by omega, rfl⟩
                        · intro h34
                          refine zw_5 zr_201_11 rfl ?_
                          refine zw_5 zr_201_12 rfl ?_
                          refine zw_29p (A := 31381059609) (B := 9) zr_201_13 (by omega) (by omega) (by omega) (by omega) (by decide) ?_
                          intro x35 hx35a hx35b
                          refine zw_13 (L' := [(1, a0), (9, 0), (0, a1), (1, x35), (9, 0), (0, (((((((((((0 + 1) + 1) + 1) + 1) + 1) + 1) + 1) + 1) + 1) + 1) + 1))]) zr_201_14 (Nat.le_of_ble_eq_true rfl) rfl ?_
                          refine zw_15 (c := 1) (L' := [(1, a0), (9, 0), (0, a1), (1, x35), (9, 0), (0, ((((((((((((0 + 1) + 1) + 1) + 1) + 1) + 1) + 1) + 1) + 1) + 1) + 1) + 1))]) zr_201_15 rfl (by decide) (by omega) rfl ?_
                          refine zw_42 zr_201_18 ?_
                          refine zw_4 zr_201_5 rfl ?_
                          refine zw_3 zr_201_7 rfl ?_
                          refine zw_41_3 zr_201_8 ?_ ?_
                          · intro h36
                            refine zw_5 zr_201_21 rfl ?_
                            refine zw_R zr_201_22 (by decide) zm_201 (v := (1, x35)) rfl ?_
                            rw [← hQ]; exact ⟨_, rfl, by omega, by omega, rfl⟩
                          · intro h37
                            refine zw_5 zr_201_11 rfl ?_
                            refine zw_5 zr_201_12 rfl ?_
                            refine zw_29p (A := 282429536481) (B := 9) zr_201_13 (by omega) (by omega) (by omega) (by omega) (by decide) ?_
                            intro x38 hx38a hx38b
                            refine zw_13 (L' := [(1, a0), (9, 0), (0, a1), (1, x38), (9, 0), (0, ((((((((((((0 + 1) + 1) + 1) + 1) + 1) + 1) + 1) + 1) + 1) + 1) + 1) + 1))]) zr_201_14 (Nat.le_of_ble_eq_true rfl) rfl ?_
                            refine zw_15 (c := 1) (L' := [(1, a0), (9, 0), (0, a1), (1, x38), (9, 0), (0, (((((((((((((0 + 1) + 1) + 1) + 1) + 1) + 1) + 1) + 1) + 1) + 1) + 1) + 1) + 1))]) zr_201_15 rfl (by decide) (by omega) rfl ?_
                            refine zw_42 zr_201_18 ?_
                            refine zw_4 zr_201_5 rfl ?_
                            refine zw_3 zr_201_7 rfl ?_
                            refine zw_41_3 zr_201_8 ?_ ?_
                            · intro h39
                              refine zw_5 zr_201_21 rfl ?_
                              refine zw_R zr_201_22 (by decide) zm_201 (v := (1, x38)) rfl ?_
                              rw [← hQ]; exact ⟨_, rfl, by omega, by omega, rfl⟩
                            · intro h40
                              refine zw_5 zr_201_11 rfl ?_
                              refine zw_5 zr_201_12 rfl ?_
                              refine zw_29p (A := 2541865828329) (B := 9) zr_201_13 (by omega) (by omega) (by omega) (by omega) (by decide) ?_
                              intro x41 hx41a hx41b
                              refine zw_13 (L' := [(1, a0), (9, 0), (0, a1), (1, x41), (9, 0), (0, (((((((((((((0 + 1) + 1) + 1) + 1) + 1) + 1) + 1) + 1) + 1) + 1) + 1) + 1) + 1))]) zr_201_14 (Nat.le_of_ble_eq_true rfl) rfl ?_
                              refine zw_15 (c := 1) (L' := [(1, a0), (9, 0), (0, a1), (1, x41), (9, 0), (0, ((((((((((((((0 + 1) + 1) + 1) + 1) + 1) + 1) + 1) + 1) + 1) + 1) + 1) + 1) + 1) + 1))]) zr_201_15 rfl (by decide) (by omega) rfl ?_
                              refine zw_42 zr_201_18 ?_
                              refine zw_4 zr_201_5 rfl ?_
                              refine zw_3 zr_201_7 rfl ?_
                              refine zw_41_3 zr_201_8 ?_ ?_
                              · intro h42
                                refine zw_5 zr_201_21 rfl ?_
                                refine zw_R zr_201_22 (by decide) zm_201 (v := (1, x41)) rfl ?_
                                rw [← hQ]; exact ⟨_, rfl, by omega, by omega, rfl⟩
                              · intro h43
                                refine zw_5 zr_201_11 rfl ?_
                                refine zw_5 zr_201_12 rfl ?_
                                refine zw_29p (A := 22876792454961) (B := 9) zr_201_13 (by omega) (by omega) (by omega) (by omega) (by decide) ?_
                                intro x44 hx44a hx44b
                                refine zw_13 (L' := [(1, a0), (9, 0), (0, a1), (1, x44), (9, 0), (0, ((((((((((((((0 + 1) + 1) + 1) + 1) + 1) + 1) + 1) + 1) + 1) + 1) + 1) + 1) + 1) + 1))]) zr_201_14 (Nat.le_of_ble_eq_true rfl) rfl ?_
                                refine zw_15 (c := 1) (L' := [(1, a0), (9, 0), (0, a1), (1, x44), (9, 0), (0, (((((((((((((((0 + 1) + 1) + 1) + 1) + 1) + 1) + 1) + 1) + 1) + 1) + 1) + 1) + 1) + 1) + 1))]) zr_201_15 rfl (by decide) (by omega) rfl ?_
                                refine zw_42 zr_201_18 ?_
                                refine zw_4 zr_201_5 rfl ?_
                                refine zw_3 zr_201_7 rfl ?_
                                refine zw_41_3 zr_201_8 ?_ ?_
                                · intro h45
                                  refine zw_5 zr_201_21 rfl ?_
                                  refine zw_R zr_201_22 (by decide) zm_201 (v := (1, x44)) rfl ?_
                                  rw [← hQ]; exact ⟨_, rfl, by omega, by omega, rfl⟩
                                · intro h46; omega

abbrev W_202 : List (Nat × Nat) := [(69, 3), (69, 4)]
set_option maxHeartbeats 8000000 in
theorem th_202 {E : zE} {d : Nat} {m0 : zM} {a0 : Int} {a1 : Int} {a2 : Int} {a3 : Int} (hd : 4 ≤ d) (hI0 : zInv m0) (ha0 : (-2147483648) ≤ a0 ∧ a0 ≤ 2147483647) (ha1 : (-2147483648) ≤ a1 ∧ a1 ≤ 2147483647) (ha2 : (-2147483648) ≤ a2 ∧ a2 ≤ 2147483647) (ha3 : (-2147483648) ≤ a3 ∧ a3 ≤ 2147483647) : zC E d 202 [(2, 69), (0, a0), (0, a1), (0, a2), (0, a3)] m0 (fun v m' => ∃ r : Int, v = (0, r) ∧ (-3) ≤ r ∧ r ≤ 1 ∧ zInv m' ∧ zFr W_202 m0 m') := by
  have hF0 : zFr W_202 m0 m0 := zFr.rfl
  generalize hQ : (fun (v : zV) (m' : zM) => ∃ r : Int, v = (0, r) ∧ (-3) ≤ r ∧ r ≤ 1 ∧ zInv m' ∧ zFr W_202 m0 m') = Q
  show zW E d 202 0 [(2, 69), (0, a0), (0, a1), (0, a2), (0, a3), (9, 0), (9, 0), (9, 0), (9, 0), (9, 0), (9, 0), (9, 0)] [] m0 Q
  refine zw_7 zr_202_0 rfl ?_
  refine zw_3 zr_202_1 rfl ?_
  refine zw_C zr_202_2 (Or.inl rfl) zm_143 rfl rfl ⟨Nat.le_of_ble_eq_true rfl, Nat.le_of_ble_eq_true rfl, Nat.le_of_ble_eq_true rfl, rfl, by decide⟩ (by omega) (P := (fun v m' => zW E (d) 202 5 [(2, 69), (0, a0), (0, a1), (0, a2), (0, a3), (9, 0), (9, 0), (9, 0), (9, 0), (9, 0), (9, 0), (9, 0)] (if v.1 = 9 then [] else v :: []) m' Q)) ?_ (fun _ _ h => h)
  generalize hQ1 : (fun v m' => zW E (d) 202 5 [(2, 69), (0, a0), (0, a1), (0, a2), (0, a3), (9, 0), (9, 0), (9, 0), (9, 0), (9, 0), (9, 0), (9, 0)] (if v.1 = 9 then [] else v :: []) m' Q) = Q1
  show zW E (d - 1) 143 0 [(2, 69), (0, a0)] [] m0 Q1
  refine zw_3 zr_143_0 rfl ?_
  refine zw_36 zr_143_1 ?_
  refine zw_push zr_143_2 ?_
  refine zw_7 zr_143_3 rfl ?_
  refine zw_C zr_143_4 (Or.inl rfl) zm_141 rfl rfl ⟨Nat.le_of_ble_eq_true rfl, Nat.le_of_ble_eq_true rfl, Nat.le_of_ble_eq_true rfl, rfl, by decide⟩ (by omega) (P := (fun v m' => zW E (d - 1) 143 7 [(2, 69), (0, a0)] (if v.1 = 9 then [(1, 0), (1, a0)] else v :: [(1, 0), (1, a0)]) m' Q1)) ?_ (fun _ _ h => h)
  generalize hQ2 : (fun v m' => zW E (d - 1) 143 7 [(2, 69), (0, a0)] (if v.1 = 9 then [(1, 0), (1, a0)] else v :: [(1, 0), (1, a0)]) m' Q1) = Q2
  show zW E (d - 1 - 1) 141 0 [(2, 69)] [] m0 Q2
  refine zw_7 zr_141_0 rfl ?_
  refine zw_46r (s := 70) zr_141_1 rfl rfl rfl rfl ?_
  refine zw_push zr_141_4 ?_
  obtain ⟨f1, ef1⟩ : ∃ v, m0 70 822 = v := ⟨_, rfl⟩
  have bf1 : 0 ≤ m0 70 822 ∧ m0 70 822 ≤ 10 := ib_70_players hI0 (by omega)
  rw [ef1] at bf1
  refine zw_48k (c := 70) (len := 826) zr_141_7 rfl rfl (by omega) (by omega) (show (822 : Int).toNat = 822 by omega) ef1 ?_
  refine zw_R zr_141_8 (by decide) zm_141 (v := (0, f1)) rfl ?_
  rw [← hQ2]
  show zW E (d - 1) 143 7 [(2, 69), (0, a0)] [(0, f1), (1, 0), (1, a0)] m0 Q1
  refine zw_push zr_143_7 ?_
  refine zw_17 zr_143_8 (by omega) ?_
  refine zw_36 zr_143_9 ?_
  refine zw_C zr_143_10 (Or.inr rfl) zm_140 rfl rfl ⟨Nat.le_of_ble_eq_true rfl, Nat.le_of_ble_eq_true rfl, Nat.le_of_ble_eq_true rfl, rfl, by decide⟩ (by omega) (P := (fun v m' => zW E (d - 1) 143 13 [(2, 69), (0, a0)] (if v.1 = 9 then [] else v :: []) m' Q1)) ?_ (fun _ _ h => h)
  generalize hQ2 : (fun v m' => zW E (d - 1) 143 13 [(2, 69), (0, a0)] (if v.1 = 9 then [] else v :: []) m' Q1) = Q2
  show zW E (d - 1 - 1) 140 0 [(1, a0), (9, 0), (1, 0), (9, 0), (1, (f1 - 1)), (9, 0)] [] m0 Q2
  refine zw_5 zr_140_0 rfl ?_
  refine zw_5 zr_140_1 rfl ?_
  refine zw_39_0 zr_140_2 zr_140_3 ?_ ?_
  · intro h2
    refine zw_push zr_140_17 ?_
    refine zw_R zr_140_18 (by decide) zm_140 (v := (0, 0)) (zRetB (by omega)) ?_
    rw [← hQ2]
    show zW E (d - 1) 143 13 [(2, 69), (0, a0)] [(0, 0)] m0 Q1
    refine zw_R zr_143_13 (by decide) zm_143 (v := (0, 0)) (zRetB (by omega)) ?_
    rw [← hQ1]
    show zW E (d) 202 5 [(2, 69), (0, a0), (0, a1), (0, a2), (0, a3), (9, 0), (9, 0), (9, 0), (9, 0), (9, 0), (9, 0), (9, 0)] [(0, 0)] m0 Q
    refine zw_40_1 zr_202_5 ?_ ?_
    · intro h3
      refine zw_push zr_202_50 ?_
      refine zw_R zr_202_52 (by decide) zm_202 (v := (0, (-2))) rfl ?_
      rw [← hQ]; exact ⟨_, rfl, by omega, by omega, hI0, hF0⟩
    · intro h4; omega
  · intro h5
    refine zw_5 zr_140_6 rfl ?_
    refine zw_6 zr_140_7 rfl ?_
    refine zw_39_2 zr_140_9 zr_140_10 ?_ ?_
    · intro h6
      refine zw_push zr_140_17 ?_
      refine zw_R zr_140_18 (by decide) zm_140 (v := (0, 0)) (zRetB (by omega)) ?_
      rw [← hQ2]
      show zW E (d - 1) 143 13 [(2, 69), (0, a0)] [(0, 0)] m0 Q1
      refine zw_R zr_143_13 (by decide) zm_143 (v := (0, 0)) (zRetB (by omega)) ?_
      rw [← hQ1]
      show zW E (d) 202 5 [(2, 69), (0, a0), (0, a1), (0, a2), (0, a3), (9, 0), (9, 0), (9, 0), (9, 0), (9, 0), (9, 0), (9, 0)] [(0, 0)] m0 Q
      refine zw_40_1 zr_202_5 ?_ ?_
      · intro h7
        refine zw_push zr_202_50 ?_
        refine zw_R zr_202_52 (by decide) zm_202 (v := (0, (-2))) rfl ?_
        rw [← hQ]; exact ⟨_, rfl, by omega, by omega, hI0, hF0⟩
      · intro h8; omega
    · intro h9
      refine zw_push zr_140_13 ?_
      refine zw_42 zr_140_14 ?_
      refine zw_R zr_140_18 (by decide) zm_140 (v := (0, 1)) (zRetB (by omega)) ?_
      rw [← hQ2]
      show zW E (d - 1) 143 13 [(2, 69), (0, a0)] [(0, 1)] m0 Q1
      refine zw_R zr_143_13 (by decide) zm_143 (v := (0, 1)) (zRetB (by omega)) ?_
      rw [← hQ1]
      show zW E (d) 202 5 [(2, 69), (0, a0), (0, a1), (0, a2), (0, a3), (9, 0), (9, 0), (9, 0), (9, 0), (9, 0), (9, 0), (9, 0)] [(0, 1)] m0 Q
      refine zw_40_1 zr_202_5 ?_ ?_
      · intro h10; omega
      · intro h11
        refine zw_7 zr_202_8 rfl ?_
        refine zw_3 zr_202_9 rfl ?_
        refine zw_C zr_202_10 (Or.inl rfl) zm_143 rfl rfl ⟨Nat.le_of_ble_eq_true rfl, Nat.le_of_ble_eq_true rfl, Nat.le_of_ble_eq_true rfl, rfl, by decide⟩ (by omega) (P := (fun v m' => zW E (d) 202 13 [(2, 69), (0, a0), (0, a1), (0, a2), (0, a3), (9, 0), (9, 0), (9, 0), (9, 0), (9, 0), (9, 0), (9, 0)] (if v.1 = 9 then [] else v :: []) m' Q)) ?_ (fun _ _ h => h)
        generalize hQ1 : (fun v m' => zW E (d) 202 13 [(2, 69), (0, a0), (0, a1), (0, a2), (0, a3), (9, 0), (9, 0), (9, 0), (9, 0), (9, 0), (9, 0), (9, 0)] (if v.1 = 9 then [] else v :: []) m' Q) = Q1
        show zW E (d - 1) 143 0 [(2, 69), (0, a1)] [] m0 Q1
        refine zw_3 zr_143_0 rfl ?_
        refine zw_36 zr_143_1 ?_
        refine zw_push zr_143_2 ?_
        refine zw_7 zr_143_3 rfl ?_
        refine zw_C zr_143_4 (Or.inl rfl) zm_141 rfl rfl ⟨Nat.le_of_ble_eq_true rfl, Nat.le_of_ble_eq_true rfl, Nat.le_of_ble_eq_true rfl, rfl, by decide⟩ (by omega) (P := (fun v m' => zW E (d - 1) 143 7 [(2, 69), (0, a1)] (if v.1 = 9 then [(1, 0), (1, a1)] else v :: [(1, 0), (1, a1)]) m' Q1)) ?_ (fun _ _ h => h)
        generalize hQ2 : (fun v m' => zW E (d - 1) 143 7 [(2, 69), (0, a1)] (if v.1 = 9 then [(1, 0), (1, a1)] else v :: [(1, 0), (1, a1)]) m' Q1) = Q2
        show zW E (d - 1 - 1) 141 0 [(2, 69)] [] m0 Q2
        refine zw_7 zr_141_0 rfl ?_
        refine zw_46r (s := 70) zr_141_1 rfl rfl rfl rfl ?_
        refine zw_push zr_141_4 ?_
        refine zw_48k (c := 70) (len := 826) zr_141_7 rfl rfl (by omega) (by omega) (show (822 : Int).toNat = 822 by omega) ef1 ?_
        refine zw_R zr_141_8 (by decide) zm_141 (v := (0, f1)) rfl ?_
        rw [← hQ2]
        show zW E (d - 1) 143 7 [(2, 69), (0, a1)] [(0, f1), (1, 0), (1, a1)] m0 Q1
        refine zw_push zr_143_7 ?_
        refine zw_17 zr_143_8 (by omega) ?_
        refine zw_36 zr_143_9 ?_
        refine zw_C zr_143_10 (Or.inr rfl) zm_140 rfl rfl ⟨Nat.le_of_ble_eq_true rfl, Nat.le_of_ble_eq_true rfl, Nat.le_of_ble_eq_true rfl, rfl, by decide⟩ (by omega) (P := (fun v m' => zW E (d - 1) 143 13 [(2, 69), (0, a1)] (if v.1 = 9 then [] else v :: []) m' Q1)) ?_ (fun _ _ h => h)
        generalize hQ2 : (fun v m' => zW E (d - 1) 143 13 [(2, 69), (0, a1)] (if v.1 = 9 then [] else v :: []) m' Q1) = Q2
        show zW E (d - 1 - 1) 140 0 [(1, a1), (9, 0), (1, 0), (9, 0), (1, (f1 - 1)), (9, 0)] [] m0 Q2
        refine zw_5 zr_140_0 rfl ?_
        refine zw_5 zr_140_1 rfl ?_
        refine zw_39_0 zr_140_2 zr_140_3 ?_ ?_
        · intro h12
          refine zw_push zr_140_17 ?_
          refine zw_R zr_140_18 (by decide) zm_140 (v := (0, 0)) (zRetB (by omega)) ?_
          rw [← hQ2]
          show zW E (d - 1) 143 13 [(2, 69), (0, a1)] [(0, 0)] m0 Q1
          refine zw_R zr_143_13 (by decide) zm_143 (v := (0, 0)) (zRetB (by omega)) ?_
          rw [← hQ1]
          show zW E (d) 202 13 [(2, 69), (0, a0), (0, a1), (0, a2), (0, a3), (9, 0), (9, 0), (9, 0), (9, 0), (9, 0), (9, 0), (9, 0)] [(0, 0)] m0 Q
          refine zw_40_1 zr_202_13 ?_ ?_
          · intro h13
            refine zw_push zr_202_50 ?_
            refine zw_R zr_202_52 (by decide) zm_202 (v := (0, (-2))) rfl ?_
            rw [← hQ]; exact ⟨_, rfl, by omega, by omega, hI0, hF0⟩
          · intro h14; omega
        · intro h15
          refine zw_5 zr_140_6 rfl ?_
          refine zw_6 zr_140_7 rfl ?_
          refine zw_39_2 zr_140_9 zr_140_10 ?_ ?_
          · intro h16
            refine zw_push zr_140_17 ?_
            refine zw_R zr_140_18 (by decide) zm_140 (v := (0, 0)) (zRetB (by omega)) ?_
            rw [← hQ2]
            show zW E (d - 1) 143 13 [(2, 69), (0, a1)] [(0, 0)] m0 Q1
            refine zw_R zr_143_13 (by decide) zm_143 (v := (0, 0)) (zRetB (by omega)) ?_
            rw [← hQ1]
            show zW E (d) 202 13 [(2, 69), (0, a0), (0, a1), (0, a2), (0, a3), (9, 0), (9, 0), (9, 0), (9, 0), (9, 0), (9, 0), (9, 0)] [(0, 0)] m0 Q
            refine zw_40_1 zr_202_13 ?_ ?_
            · intro h17
              refine zw_push zr_202_50 ?_
              refine zw_R zr_202_52 (by decide) zm_202 (v := (0, (-2))) rfl ?_
              rw [← hQ]; exact ⟨_, rfl, by omega, by omega, hI0, hF0⟩
            · intro h18; omega
          · intro h19
            refine zw_push zr_140_13 ?_
            refine zw_42 zr_140_14 ?_
            refine zw_R zr_140_18 (by decide) zm_140 (v := (0, 1)) (zRetB (by omega)) ?_
            rw [← hQ2]
            show zW E (d - 1) 143 13 [(2, 69), (0, a1)] [(0, 1)] m0 Q1
            refine zw_R zr_143_13 (by decide) zm_143 (v := (0, 1)) (zRetB (by omega)) ?_
            rw [← hQ1]
            show zW E (d) 202 13 [(2, 69), (0, a0), (0, a1), (0, a2), (0, a3), (9, 0), (9, 0), (9, 0), (9, 0), (9, 0), (9, 0), (9, 0)] [(0, 1)] m0 Q
            refine zw_40_1 zr_202_13 ?_ ?_
            · intro h20; omega
            · intro h21
              refine zw_3 zr_202_16 rfl ?_
              refine zw_3 zr_202_17 rfl ?_
              refine zw_41_1 zr_202_18 ?_ ?_
              · intro h22
                refine zw_push zr_202_50 ?_
                refine zw_R zr_202_52 (by decide) zm_202 (v := (0, (-2))) rfl ?_
                rw [← hQ]; exact ⟨_, rfl, by omega, by omega, hI0, hF0⟩
              · intro h23
                refine zw_4 zr_202_21 rfl ?_
                refine zw_36 zr_202_23 ?_
                refine zw_push zr_202_24 ?_
                refine zw_push zr_202_27 ?_
                refine zw_C zr_202_30 (Or.inr rfl) zm_140 rfl rfl ⟨Nat.le_of_ble_eq_true rfl, Nat.le_of_ble_eq_true rfl, Nat.le_of_ble_eq_true rfl, rfl, by decide⟩ (by omega) (P := (fun v m' => zW E (d) 202 33 [(2, 69), (0, a0), (0, a1), (0, a2), (0, a3), (9, 0), (9, 0), (9, 0), (9, 0), (9, 0), (9, 0), (9, 0)] (if v.1 = 9 then [] else v :: []) m' Q)) ?_ (fun _ _ h => h)
                generalize hQ1 : (fun v m' => zW E (d) 202 33 [(2, 69), (0, a0), (0, a1), (0, a2), (0, a3), (9, 0), (9, 0), (9, 0), (9, 0), (9, 0), (9, 0), (9, 0)] (if v.1 = 9 then [] else v :: []) m' Q) = Q1
                show zW E (d - 1) 140 0 [(1, a3), (9, 0), (1, 2), (9, 0), (1, 9), (9, 0)] [] m0 Q1
                refine zw_5 zr_140_0 rfl ?_
                refine zw_5 zr_140_1 rfl ?_
                refine zw_39_0 zr_140_2 zr_140_3 ?_ ?_
                · intro h24
                  refine zw_push zr_140_17 ?_
                  refine zw_R zr_140_18 (by decide) zm_140 (v := (0, 0)) (zRetB (by omega)) ?_
                  rw [← hQ1]
                  show zW E (d) 202 33 [(2, 69), (0, a0), (0, a1), (0, a2), (0, a3), (9, 0), (9, 0), (9, 0), (9, 0), (9, 0), (9, 0), (9, 0)] [(0, 0)] m0 Q
                  refine zw_40_1 zr_202_33 ?_ ?_
                  · intro h25
                    refine zw_push zr_202_50 ?_
                    refine zw_R zr_202_52 (by decide) zm_202 (v := (0, (-2))) rfl ?_
                    rw [← hQ]; exact ⟨_, rfl, by omega, by omega, hI0, hF0⟩
                  · intro h26; omega
                · intro h27
                  refine zw_5 zr_140_6 rfl ?_
                  refine zw_6 zr_140_7 rfl ?_
                  refine zw_39_2 zr_140_9 zr_140_10 ?_ ?_
                  · intro h28
                    refine zw_push zr_140_17 ?_
                    refine zw_R zr_140_18 (by decide) zm_140 (v := (0, 0)) (zRetB (by omega)) ?_
                    rw [← hQ1]
                    show zW E (d) 202 33 [(2, 69), (0, a0), (0, a1), (0, a2), (0, a3), (9, 0), (9, 0), (9, 0), (9, 0), (9, 0), (9, 0), (9, 0)] [(0, 0)] m0 Q
                    refine zw_40_1 zr_202_33 ?_ ?_
                    · intro h29
                      refine zw_push zr_202_50 ?_
                      refine zw_R zr_202_52 (by decide) zm_202 (v := (0, (-2))) rfl ?_
                      rw [← hQ]; exact ⟨_, rfl, by omega, by omega, hI0, hF0⟩
                    · intro h30; omega
                  · intro h31
                    refine zw_push zr_140_13 ?_
                    refine zw_42 zr_140_14 ?_
                    refine zw_R zr_140_18 (by decide) zm_140 (v := (0, 1)) (zRetB (by omega)) ?_
                    rw [← hQ1]
                    show zW E (d) 202 33 [(2, 69), (0, a0), (0, a1), (0, a2), (0, a3), (9, 0), (9, 0), (9, 0), (9, 0), (9, 0), (9, 0), (9, 0)] [(0, 1)] m0 Q
                    refine zw_40_1 zr_202_33 ?_ ?_
                    · intro h32; omega
                    · intro h33
                      refine zw_3 zr_202_36 rfl ?_
                      refine zw_36 zr_202_37 ?_
                      refine zw_push zr_202_38 ?_
                      refine zw_4 zr_202_39 rfl ?_
                      refine zw_push zr_202_41 ?_
                      refine zw_17 zr_202_42 (by omega) ?_
                      refine zw_36 zr_202_43 ?_
                      refine zw_C zr_202_44 (Or.inr rfl) zm_140 rfl rfl ⟨Nat.le_of_ble_eq_true rfl, Nat.le_of_ble_eq_true rfl, Nat.le_of_ble_eq_true rfl, rfl, by decide⟩ (by omega) (P := (fun v m' => zW E (d) 202 47 [(2, 69), (0, a0), (0, a1), (0, a2), (0, a3), (9, 0), (9, 0), (9, 0), (9, 0), (9, 0), (9, 0), (9, 0)] (if v.1 = 9 then [] else v :: []) m' Q)) ?_ (fun _ _ h => h)
                      generalize hQ1 : (fun v m' => zW E (d) 202 47 [(2, 69), (0, a0), (0, a1), (0, a2), (0, a3), (9, 0), (9, 0), (9, 0), (9, 0), (9, 0), (9, 0), (9, 0)] (if v.1 = 9 then [] else v :: []) m' Q) = Q1
                      show zW E (d - 1) 140 0 [(1, a2), (9, 0), (1, 1), (9, 0), (1, (a3 - 1)), (9, 0)] [] m0 Q1
                      refine zw_5 zr_140_0 rfl ?_
                      refine zw_5 zr_140_1 rfl ?_
                      refine zw_39_0 zr_140_2 zr_140_3 ?_ ?_
                      · intro h34
                        refine zw_push zr_140_17 ?_
                        refine zw_R zr_140_18 (by decide) zm_140 (v := (0, 0)) (zRetB (by omega)) ?_
                        rw [← hQ1]
                        show zW E (d) 202 47 [(2, 69), (0, a0), (0, a1), (0, a2), (0, a3), (9, 0), (9, 0), (9, 0), (9, 0), (9, 0), (9, 0), (9, 0)] [(0, 0)] m0 Q
                        refine zw_40_4 zr_202_47 ?_ ?_
                        · intro h35; omega
                        · intro h36
                          refine zw_push zr_202_50 ?_
                          refine zw_R zr_202_52 (by decide) zm_202 (v := (0, (-2))) rfl ?_
                          rw [← hQ]; exact ⟨_, rfl, by omega, by omega, hI0, hF0⟩
                      · intro h37
                        refine zw_5 zr_140_6 rfl ?_
                        refine zw_6 zr_140_7 rfl ?_
                        refine zw_39_2 zr_140_9 zr_140_10 ?_ ?_
                        · intro h38
                          refine zw_push zr_140_17 ?_
                          refine zw_R zr_140_18 (by decide) zm_140 (v := (0, 0)) (zRetB (by omega)) ?_
                          rw [← hQ1]
                          show zW E (d) 202 47 [(2, 69), (0, a0), (0, a1), (0, a2), (0, a3), (9, 0), (9, 0), (9, 0), (9, 0), (9, 0), (9, 0), (9, 0)] [(0, 0)] m0 Q
                          refine zw_40_4 zr_202_47 ?_ ?_
                          · intro h39; omega
                          · intro h40
                            refine zw_push zr_202_50 ?_
                            refine zw_R zr_202_52 (by decide) zm_202 (v := (0, (-2))) rfl ?_
                            rw [← hQ]; exact ⟨_, rfl, by omega, by omega, hI0, hF0⟩
                        · intro h41
                          refine zw_push zr_140_13 ?_
                          refine zw_42 zr_140_14 ?_
                          refine zw_R zr_140_18 (by decide) zm_140 (v := (0, 1)) (zRetB (by omega)) ?_
                          rw [← hQ1]
                          show zW E (d) 202 47 [(2, 69), (0, a0), (0, a1), (0, a2), (0, a3), (9, 0), (9, 0), (9, 0), (9, 0), (9, 0), (9, 0), (9, 0)] [(0, 1)] m0 Q
                          refine zw_40_4 zr_202_47 ?_ ?_
                          · intro h42
                            refine zw_7 zr_202_53 rfl ?_
                            refine zw_3 zr_202_54 rfl ?_
                            refine zw_3 zr_202_55 rfl ?_
                            refine zw_push zr_202_56 ?_
                            refine zw_C zr_202_57 (Or.inl rfl) zm_200 rfl rfl ⟨Nat.le_of_ble_eq_true rfl, Nat.le_of_ble_eq_true rfl, Nat.le_of_ble_eq_true rfl, rfl, by decide⟩ (by omega) (th_200 (d := d - 1) (by omega) hI0 (a0 := a0) (a1 := a1) (a2 := 0)      (by omega) (by omega) (by omega) ) ?_
                            rintro _ _ ⟨r43, rfl, hr43a, hr43b, rfl⟩
                            show zW E (d) 202 60 [(2, 69), (0, a0), (0, a1), (0, a2), (0, a3), (9, 0), (9, 0), (9, 0), (9, 0), (9, 0), (9, 0), (9, 0)] [(0, r43)] m0 Q
                            refine zw_10 (L' := [(2, 69), (0, a0), (0, a1), (0, a2), (0, a3), (0, r43), (9, 0), (9, 0), (9, 0), (9, 0), (9, 0), (9, 0)]) zr_202_60 (Nat.le_of_ble_eq_true rfl) rfl ?_
                            refine zw_7 zr_202_62 rfl ?_
                            refine zw_3 zr_202_63 rfl ?_
                            refine zw_3 zr_202_64 rfl ?_
                            refine zw_push zr_202_65 ?_
                            refine zw_C zr_202_66 (Or.inl rfl) zm_200 rfl rfl ⟨Nat.le_of_ble_eq_true rfl, Nat.le_of_ble_eq_true rfl, Nat.le_of_ble_eq_true rfl, rfl, by decide⟩ (by omega) (th_200 (d := d - 1) (by omega) hI0 (a0 := a0) (a1 := a1) (a2 := 1)      (by omega) (by omega) (by omega) ) ?_
                            rintro _ _ ⟨r44, rfl, hr44a, hr44b, rfl⟩
                            show zW E (d) 202 69 [(2, 69), (0, a0), (0, a1), (0, a2), (0, a3), (0, r43), (9, 0), (9, 0), (9, 0), (9, 0), (9, 0), (9, 0)] [(0, r44)] m0 Q
                            refine zw_10 (L' := [(2, 69), (0, a0), (0, a1), (0, a2), (0, a3), (0, r43), (0, r44), (9, 0), (9, 0), (9, 0), (9, 0), (9, 0)]) zr_202_69 (Nat.le_of_ble_eq_true rfl) rfl ?_
                            refine zw_4 zr_202_71 rfl ?_
                            refine zw_36 zr_202_73 ?_
                            refine zw_push zr_202_74 ?_
                            refine zw_push zr_202_75 ?_
                            refine zw_C zr_202_78 (Or.inr rfl) zm_140 rfl rfl ⟨Nat.le_of_ble_eq_true rfl, Nat.le_of_ble_eq_true rfl, Nat.le_of_ble_eq_true rfl, rfl, by decide⟩ (by omega) (P := (fun v m' => zW E (d) 202 81 [(2, 69), (0, a0), (0, a1), (0, a2), (0, a3), (0, r43), (0, r44), (9, 0), (9, 0), (9, 0), (9, 0), (9, 0)] (if v.1 = 9 then [] else v :: []) m' Q)) ?_ (fun _ _ h => h)
                            generalize hQ1 : (fun v m' => zW E (d) 202 81 [(2, 69), (0, a0), (0, a1), (0, a2), (0, a3), (0, r43), (0, r44), (9, 0), (9, 0), (9, 0), (9, 0), (9, 0)] (if v.1 = 9 then [] else v :: []) m' Q) = Q1
                            show zW E (d - 1) 140 0 [(1, r43), (9, 0), (1, 1), (9, 0), (1, 15), (9, 0)] [] m0 Q1
                            refine zw_5 zr_140_0 rfl ?_
                            refine zw_5 zr_140_1 rfl ?_
                            refine zw_39_0 zr_140_2 zr_140_3 ?_ ?_
                            · intro h45
                              refine zw_push zr_140_17 ?_
                              refine zw_R zr_140_18 (by decide) zm_140 (v := (0, 0)) (zRetB (by omega)) ?_
                              rw [← hQ1]
                              show zW E (d) 202 81 [(2, 69), (0, a0), (0, a1), (0, a2), (0, a3), (0, r43), (0, r44), (9, 0), (9, 0), (9, 0), (9, 0), (9, 0)] [(0, 0)] m0 Q
                              refine zw_40_4 zr_202_81 ?_ ?_
                              · intro h46; omega
                              · intro h47
                                refine zw_push zr_202_84 ?_
                                refine zw_R zr_202_86 (by decide) zm_202 (v := (0, (-3))) rfl ?_
                                rw [← hQ]; exact ⟨_, rfl, by omega, by omega, hI0, hF0⟩
                            · intro h48
                              refine zw_5 zr_140_6 rfl ?_
                              refine zw_6 zr_140_7 rfl ?_
                              refine zw_39_2 zr_140_9 zr_140_10 ?_ ?_
                              · intro h49
                                refine zw_push zr_140_17 ?_
                                refine zw_R zr_140_18 (by decide) zm_140 (v := (0, 0)) (zRetB (by omega)) ?_
                                rw [← hQ1]
                                show zW E (d) 202 81 [(2, 69), (0, a0), (0, a1), (0, a2), (0, a3), (0, r43), (0, r44), (9, 0), (9, 0), (9, 0), (9, 0), (9, 0)] [(0, 0)] m0 Q
                                refine zw_40_4 zr_202_81 ?_ ?_
                                · intro h50; omega
                                · intro h51
                                  refine zw_push zr_202_84 ?_
                                  refine zw_R zr_202_86 (by decide) zm_202 (v := (0, (-3))) rfl ?_
                                  rw [← hQ]; exact ⟨_, rfl, by omega, by omega, hI0, hF0⟩
                              · intro h52
                                refine zw_push zr_140_13 ?_
                                refine zw_42 zr_140_14 ?_
                                refine zw_R zr_140_18 (by decide) zm_140 (v := (0, 1)) (zRetB (by omega)) ?_
                                rw [← hQ1]
                                show zW E (d) 202 81 [(2, 69), (0, a0), (0, a1), (0, a2), (0, a3), (0, r43), (0, r44), (9, 0), (9, 0), (9, 0), (9, 0), (9, 0)] [(0, 1)] m0 Q
                                refine zw_40_4 zr_202_81 ?_ ?_
                                · intro h53
                                  refine zw_push zr_202_87 ?_
                                  refine zw_14 (L' := [(2, 69), (0, a0), (0, a1), (0, a2), (0, a3), (0, r43), (0, r44), (1, 0), (9, 0), (9, 0), (9, 0), (9, 0)]) zr_202_88 (Nat.le_of_ble_eq_true rfl) rfl ?_
                                  refine zw_push zr_202_90 ?_
                                  refine zw_14 (L' := [(2, 69), (0, a0), (0, a1), (0, a2), (0, a3), (0, r43), (0, r44), (1, 0), (9, 0), (1, 1), (9, 0), (9, 0)]) zr_202_91 (Nat.le_of_ble_eq_true rfl) rfl ?_
                                  refine zw_push zr_202_93 ?_
                                  refine zw_10 (L' := [(2, 69), (0, a0), (0, a1), (0, a2), (0, a3), (0, r43), (0, r44), (1, 0), (9, 0), (1, 1), (9, 0), (0, 0)]) zr_202_94 (Nat.le_of_ble_eq_true rfl) rfl ?_
                                  have lp96_58 : ∀ (nlp96_58 : Nat) (i54 i55 i56 : Int) (m57 : zM), zInv m57 → zFr W_202 m0 m57 → m57 70 822 = f1 → (-9223372036854775808) ≤ i54 → i54 ≤ 9223372036854775807 → (-9223372036854775808) ≤ i55 → i55 ≤ 9223372036854775807 → 0 ≤ i56 → i56 ≤ 16 → (16 - i56).toNat < nlp96_58 → zW E (d) 202 96 [(2, 69), (0, a0), (0, a1), (0, a2), (0, a3), (0, r43), (0, r44), (1, i54), (9, 0), (1, i55), (9, 0), (0, i56)] [] m57 Q := by
                                    intro nlp96_58
                                    induction nlp96_58 with
                                    | zero =>
                                      intros
                                      exact absurd (by assumption : _ < 0) (Nat.not_lt_zero _)
                                    | succ nlp96_58 ihlp96_58 =>
                                      intro i54 i55 i56 m57 hIm57 hFm57 km57_70_822 li54 ui54 li55 ui55 li56 ui56 hmlp96_58
                                      refine zw_4 zr_202_96 rfl ?_
                                      refine zw_4 zr_202_98 rfl ?_
                                      refine zw_41_2 zr_202_100 ?_ ?_
                                      · intro h60
                                        refine zw_7 zr_202_166 rfl ?_
                                        refine zw_6 zr_202_167 rfl ?_
                                        refine zw_4 zr_202_169 rfl ?_
                                        refine zw_36 zr_202_171 ?_
                                        refine zw_4 zr_202_172 rfl ?_
                                        refine zw_C zr_202_174 (Or.inr rfl) zm_201 rfl rfl ⟨Nat.le_of_ble_eq_true rfl, Nat.le_of_ble_eq_true rfl, Nat.le_of_ble_eq_true rfl, rfl, by decide⟩ (by omega) (th_201 (d := d - 1) (by omega) hIm57 (a0 := a3) (a1 := r43)      (by omega) (by omega) ) ?_
                                        rintro _ _ ⟨r61, rfl, hr61a, hr61b, rfl⟩
                                        show zW E (d) 202 177 [(2, 69), (0, a0), (0, a1), (0, a2), (0, a3), (0, r43), (0, r44), (1, i54), (9, 0), (1, i55), (9, 0), (0, i56)] [(1, r61), (1, i54), (2, 69)] m57 Q
                                        refine zw_C zr_202_177 (Or.inl rfl) zm_173 rfl rfl ⟨Nat.le_of_ble_eq_true rfl, Nat.le_of_ble_eq_true rfl, Nat.le_of_ble_eq_true rfl, rfl, by decide⟩ (by omega) (th_173 (d := d - 1) (by omega) hIm57 (a0 := i54) (a1 := r61)      (by omega) (by omega) ) ?_
                                        rintro _ m62 ⟨rfl, hIm62, gm62⟩
                                        have hFm62 : zFr W_202 m0 m62 := hFm57.trans gm62 rfl
                                        have km62_70_822 : m62 70 822 = f1 := (gm62 70 822 rfl).trans km57_70_822
                                        show zW E (d) 202 180 [(2, 69), (0, a0), (0, a1), (0, a2), (0, a3), (0, r43), (0, r44), (1, i54), (9, 0), (1, i55), (9, 0), (0, i56)] [] m62 Q
                                        refine zw_push zr_202_180 ?_
                                        refine zw_R zr_202_181 (by decide) zm_202 (v := (0, 1)) rfl ?_
                                        rw [← hQ]; exact ⟨_, rfl, by omega, by omega, hIm62, hFm62⟩
                                      · intro h63
                                        refine zw_6 zr_202_103 rfl ?_
                                        refine zw_4 zr_202_105 rfl ?_
                                        refine zw_4 zr_202_107 rfl ?_
                                        refine zw_41_0 zr_202_109 ?_ ?_
                                        · intro h64
                                          refine zw_push zr_202_139 ?_
                                          refine zw_27 zr_202_140 (by omega) ?_
                                          refine zw_14 (L' := [(2, 69), (0, a0), (0, a1), (0, a2), (0, a3), (0, r43), (0, r44), (1, (i54 + 0)), (9, 0), (1, i55), (9, 0), (0, i56)]) zr_202_141 (Nat.le_of_ble_eq_true rfl) rfl ?_
                                          refine zw_6 zr_202_143 rfl ?_
                                          refine zw_4 zr_202_145 rfl ?_
                                          refine zw_4 zr_202_147 rfl ?_
                                          refine zw_17 zr_202_149 (by omega) ?_
                                          refine zw_36 zr_202_150 ?_
                                          refine zw_29h zr_202_151 ?_
                                          intro x65 hx65a hx65b
                                          refine zw_4 zr_202_152 rfl ?_
                                          refine zw_push zr_202_154 ?_
                                          refine zw_16 zr_202_155 (by omega) ?_
                                          refine zw_36 zr_202_156 ?_
                                          refine zw_118h zr_202_157 (by omega) ?_
                                          intro x66 hx66a hx66b
                                          refine zw_14 (L' := [(2, 69), (0, a0), (0, a1), (0, a2), (0, a3), (0, r43), (0, r44), (1, (i54 + 0)), (9, 0), (1, x66), (9, 0), (0, i56)]) zr_202_158 (Nat.le_of_ble_eq_true rfl) rfl ?_
                                          refine zw_15 (c := 1) (L' := [(2, 69), (0, a0), (0, a1), (0, a2), (0, a3), (0, r43), (0, r44), (1, (i54 + 0)), (9, 0), (1, x66), (9, 0), (0, (i56 + 1))]) zr_202_160 rfl (by decide) (by omega) rfl ?_
                                          refine zw_42 zr_202_163 ?_
                                          exact zw_less (L := [(2, 69), (0, a0), (0, a1), (0, a2), (0, a3), (0, r43), (0, r44), (1, (i54 + 0)), (9, 0), (1, x66), (9, 0), (0, (i56 + 1))]) ⟨Or.inr rfl, Or.inr rfl, Or.inr rfl, Or.inr rfl, Or.inr rfl, Or.inr rfl, Or.inr rfl, Or.inr rfl, Or.inl rfl, Or.inr rfl, Or.inl rfl, Or.inr rfl, trivial⟩ (ihlp96_58 ((i54 + 0)) (x66) ((i56 + 1)) m57 hIm57 hFm57  km57_70_822 (by omega) (by omega) (by omega) (by omega) (by omega) (by omega)  (by omega))
                                        · intro h67
                                          refine zw_6 zr_202_112 rfl ?_
                                          refine zw_3 zr_202_114 rfl ?_
                                          refine zw_36 zr_202_115 ?_
                                          refine zw_4 zr_202_116 rfl ?_
                                          refine zw_C zr_202_118 (Or.inr rfl) zm_201 rfl rfl ⟨Nat.le_of_ble_eq_true rfl, Nat.le_of_ble_eq_true rfl, Nat.le_of_ble_eq_true rfl, rfl, by decide⟩ (by omega) (th_201 (d := d - 1) (by omega) hIm57 (a0 := a2) (a1 := i56)      (by omega) (by omega) ) ?_
                                          rintro _ _ ⟨r68, rfl, hr68a, hr68b, rfl⟩
                                          show zW E (d) 202 121 [(2, 69), (0, a0), (0, a1), (0, a2), (0, a3), (0, r43), (0, r44), (1, i54), (9, 0), (1, i55), (9, 0), (0, i56)] [(1, r68), (1, i55), (1, i54)] m57 Q
                                          refine zw_29h zr_202_121 ?_
                                          intro x69 hx69a hx69b
                                          refine zw_4 zr_202_122 rfl ?_
                                          refine zw_3 zr_202_124 rfl ?_
                                          refine zw_17 zr_202_125 (by omega) ?_
                                          refine zw_36 zr_202_126 ?_
                                          refine zw_4 zr_202_127 rfl ?_
                                          refine zw_4 zr_202_129 rfl ?_
                                          refine zw_17 zr_202_131 (by omega) ?_
                                          refine zw_C zr_202_132 (Or.inr rfl) zm_201 rfl rfl ⟨Nat.le_of_ble_eq_true rfl, Nat.le_of_ble_eq_true rfl, Nat.le_of_ble_eq_true rfl, rfl, by decide⟩ (by omega) (th_201 (d := d - 1) (by omega) hIm57 (a0 := (a3 - a2)) (a1 := (r43 - i56))      (by omega) (by omega) ) ?_
                                          rintro _ _ ⟨r70, rfl, hr70a, hr70b, rfl⟩
                                          show zW E (d) 202 135 [(2, 69), (0, a0), (0, a1), (0, a2), (0, a3), (0, r43), (0, r44), (1, i54), (9, 0), (1, i55), (9, 0), (0, i56)] [(1, r70), (1, x69), (1, i54)] m57 Q
                                          refine zw_29h zr_202_135 ?_
                                          intro x71 hx71a hx71b
                                          refine zw_42 zr_202_136 ?_
                                          refine zw_27h zr_202_140 ?_
                                          intro x72 hx72a hx72b
                                          refine zw_14 (L' := [(2, 69), (0, a0), (0, a1), (0, a2), (0, a3), (0, r43), (0, r44), (1, x72), (9, 0), (1, i55), (9, 0), (0, i56)]) zr_202_141 (Nat.le_of_ble_eq_true rfl) rfl ?_
                                          refine zw_6 zr_202_143 rfl ?_
                                          refine zw_4 zr_202_145 rfl ?_
                                          refine zw_4 zr_202_147 rfl ?_
                                          refine zw_17 zr_202_149 (by omega) ?_
                                          refine zw_36 zr_202_150 ?_
                                          refine zw_29h zr_202_151 ?_
                                          intro x73 hx73a hx73b
                                          refine zw_4 zr_202_152 rfl ?_
                                          refine zw_push zr_202_154 ?_
                                          refine zw_16 zr_202_155 (by omega) ?_
                                          refine zw_36 zr_202_156 ?_
                                          refine zw_118h zr_202_157 (by omega) ?_
                                          intro x74 hx74a hx74b
                                          refine zw_14 (L' := [(2, 69), (0, a0), (0, a1), (0, a2), (0, a3), (0, r43), (0, r44), (1, x72), (9, 0), (1, x74), (9, 0), (0, i56)]) zr_202_158 (Nat.le_of_ble_eq_true rfl) rfl ?_
                                          refine zw_15 (c := 1) (L' := [(2, 69), (0, a0), (0, a1), (0, a2), (0, a3), (0, r43), (0, r44), (1, x72), (9, 0), (1, x74), (9, 0), (0, (i56 + 1))]) zr_202_160 rfl (by decide) (by omega) rfl ?_
                                          refine zw_42 zr_202_163 ?_
                                          exact zw_less (L := [(2, 69), (0, a0), (0, a1), (0, a2), (0, a3), (0, r43), (0, r44), (1, x72), (9, 0), (1, x74), (9, 0), (0, (i56 + 1))]) ⟨Or.inr rfl, Or.inr rfl, Or.inr rfl, Or.inr rfl, Or.inr rfl, Or.inr rfl, Or.inr rfl, Or.inr rfl, Or.inl rfl, Or.inr rfl, Or.inl rfl, Or.inr rfl, trivial⟩ (ihlp96_58 (x72) (x74) ((i56 + 1)) m57 hIm57 hFm57  km57_70_822 (by omega) (by omega) (by omega) (by omega) (by omega) (by omega)  (by omega))
                                  exact lp96_58 _ (0) (1) (0) m0 hI0 hF0  ef1 (by omega) (by omega) (by omega) (by omega) (by omega) (by omega)  (Nat.lt_succ_self _)
                                · intro h75; omega
                          · intro h76; omega

set_option maxHeartbeats 8000000 in
theorem th_127 {E : zE} {d : Nat} {m0 : zM} (hd : 3 ≤ d) (hI0 : zInv m0) : zC E d 127 [(2, 0)] m0 (fun v m' => ∃ r : Int, v = (0, r) ∧ (-2147483648) ≤ r ∧ r ≤ 2147483647 ∧ m0 = m') := by
  generalize hQ : (fun (v : zV) (m' : zM) => ∃ r : Int, v = (0, r) ∧ (-2147483648) ≤ r ∧ r ≤ 2147483647 ∧ m0 = m') = Q
  show zW E d 127 0 [(2, 0), (9, 0), (9, 0), (9, 0)] [] m0 Q
  refine zw_push zr_127_0 ?_
  refine zw_9 (L' := [(2, 0), (0, 0), (9, 0), (9, 0)]) zr_127_1 (Nat.le_of_ble_eq_true rfl) rfl ?_
  refine zw_push zr_127_2 ?_
  refine zw_9 (L' := [(2, 0), (0, 0), (0, 0), (9, 0)]) zr_127_3 (Nat.le_of_ble_eq_true rfl) rfl ?_
  have lp4_3 : ∀ (nlp4_3 : Nat) (i1 i2 : Int), (-2147483648) ≤ i1 → i1 ≤ 2147483647 → 0 ≤ i2 → i2 ≤ 10 → (10 - i2).toNat < nlp4_3 → zW E (d) 127 4 [(2, 0), (0, i1), (0, i2), (9, 0)] [] m0 Q := by
    intro nlp4_3
    induction nlp4_3 with
    | zero =>
      intros
      exact absurd (by assumption : _ < 0) (Nat.not_lt_zero _)
    | succ nlp4_3 ihlp4_3 =>
      intro i1 i2 li1 ui1 li2 ui2 hmlp4_3
      refine zw_3 zr_127_4 rfl ?_
      refine zw_7 zr_127_5 rfl ?_
      refine zw_46r (s := 1) zr_127_6 rfl rfl rfl rfl ?_
      obtain ⟨f5, ef5⟩ : ∃ v, m0 1 0 = v := ⟨_, rfl⟩
      have bf5 := ib_1_0 hI0
      rw [ef5] at bf5
      refine zw_46i zr_127_9 ef5 rfl rfl rfl ?_
      refine zw_41_3 zr_127_12 ?_ ?_
      · intro h6
        refine zw_3 zr_127_63 rfl ?_
        refine zw_R zr_127_64 (by decide) zm_127 (v := (0, i1)) rfl ?_
        rw [← hQ]; exact ⟨_, rfl, by omega, by omega, rfl⟩
      · intro h7
        refine zw_3 zr_127_15 rfl ?_
        refine zw_push zr_127_16 ?_
        refine zw_16 zr_127_17 (by omega) ?_
        refine zw_9 (L' := [(2, 0), (0, i1), (0, i2), (0, (i2 + 1))]) zr_127_18 (Nat.le_of_ble_eq_true rfl) rfl ?_
        have lp19_10 : ∀ (nlp19_10 : Nat) (i8 i9 : Int), (-2147483648) ≤ i8 → i8 ≤ 2147483647 → 1 ≤ i9 → i9 ≤ 10 → (10 - i9).toNat < nlp19_10 → zW E (d) 127 19 [(2, 0), (0, i8), (0, i2), (0, i9)] [] m0 Q := by
          intro nlp19_10
          induction nlp19_10 with
          | zero =>
            intros
            exact absurd (by assumption : _ < 0) (Nat.not_lt_zero _)
          | succ nlp19_10 ihlp19_10 =>
            intro i8 i9 li8 ui8 li9 ui9 hmlp19_10
            refine zw_3 zr_127_19 rfl ?_
            refine zw_7 zr_127_20 rfl ?_
            refine zw_46r (s := 1) zr_127_21 rfl rfl rfl rfl ?_
            refine zw_46i zr_127_24 ef5 rfl rfl rfl ?_
            refine zw_41_3 zr_127_27 ?_ ?_
            · intro h12
              refine zw_15 (c := 1) (L' := [(2, 0), (0, i8), (0, (i2 + 1)), (0, i9)]) zr_127_57 rfl (by decide) (by omega) rfl ?_
              refine zw_42 zr_127_60 ?_
              exact zw_less (L := [(2, 0), (0, i8), (0, (i2 + 1)), (9, 0)]) ⟨Or.inr rfl, Or.inr rfl, Or.inr rfl, Or.inl rfl, trivial⟩ (ihlp4_3 (i8) ((i2 + 1))  (by omega) (by omega) (by omega) (by omega)  (by omega))
            · intro h13
              refine zw_7 zr_127_30 rfl ?_
              refine zw_46r (s := 1) zr_127_31 rfl rfl rfl rfl ?_
              refine zw_3 zr_127_34 rfl ?_
              refine zw_3 zr_127_35 rfl ?_
              refine zw_C zr_127_36 (Or.inl rfl) zm_56 rfl rfl ⟨Nat.le_of_ble_eq_true rfl, Nat.le_of_ble_eq_true rfl, Nat.le_of_ble_eq_true rfl, rfl, by decide⟩ (by omega) (th_56 (d := d - 1) (by omega) hI0 (a0 := i2) (a1 := i9)      (by omega) (by omega) ) ?_
              rintro _ _ ⟨r14, rfl, hr14a, hr14b, rfl⟩
              show zW E (d) 127 39 [(2, 0), (0, i8), (0, i2), (0, i9)] [(0, r14)] m0 Q
              refine zw_push zr_127_39 ?_
              refine zw_push zr_127_40 ?_
              refine zw_C zr_127_42 (Or.inr rfl) zm_100 rfl rfl ⟨Nat.le_of_ble_eq_true rfl, Nat.le_of_ble_eq_true rfl, Nat.le_of_ble_eq_true rfl, rfl, by decide⟩ (by omega) (P := (fun v m' => zW E (d) 127 45 [(2, 0), (0, i8), (0, i2), (0, i9)] (if v.1 = 9 then [] else v :: []) m' Q)) ?_ (fun _ _ h => h)
              generalize hQ1 : (fun v m' => zW E (d) 127 45 [(2, 0), (0, i8), (0, i2), (0, i9)] (if v.1 = 9 then [] else v :: []) m' Q) = Q1
              show zW E (d - 1) 100 0 [(0, r14), (0, 1), (0, 15)] [] m0 Q1
              refine zw_3 zr_100_0 rfl ?_
              refine zw_3 zr_100_1 rfl ?_
              refine zw_41_0 zr_100_2 ?_ ?_
              · intro h15
                refine zw_push zr_100_14 ?_
                refine zw_R zr_100_15 (by decide) zm_100 (v := (0, 0)) (zRetB (by omega)) ?_
                rw [← hQ1]
                show zW E (d) 127 45 [(2, 0), (0, i8), (0, i2), (0, i9)] [(0, 0)] m0 Q
                refine zw_40_1 zr_127_45 ?_ ?_
                · intro h16
                  refine zw_15 (c := 1) (L' := [(2, 0), (0, i8), (0, i2), (0, (i9 + 1))]) zr_127_51 rfl (by decide) (by omega) rfl ?_
                  refine zw_42 zr_127_54 ?_
                  exact zw_less (L := [(2, 0), (0, i8), (0, i2), (0, (i9 + 1))]) ⟨Or.inr rfl, Or.inr rfl, Or.inr rfl, Or.inr rfl, trivial⟩ (ihlp19_10 (i8) ((i9 + 1))  (by omega) (by omega) (by omega) (by omega)  (by omega))
                · intro h17; omega
              · intro h18
                refine zw_3 zr_100_5 rfl ?_
                refine zw_3 zr_100_6 rfl ?_
                refine zw_41_2 zr_100_7 ?_ ?_
                · intro h19
                  refine zw_push zr_100_14 ?_
                  refine zw_R zr_100_15 (by decide) zm_100 (v := (0, 0)) (zRetB (by omega)) ?_
                  rw [← hQ1]
                  show zW E (d) 127 45 [(2, 0), (0, i8), (0, i2), (0, i9)] [(0, 0)] m0 Q
                  refine zw_40_1 zr_127_45 ?_ ?_
                  · intro h20
                    refine zw_15 (c := 1) (L' := [(2, 0), (0, i8), (0, i2), (0, (i9 + 1))]) zr_127_51 rfl (by decide) (by omega) rfl ?_
                    refine zw_42 zr_127_54 ?_
                    exact zw_less (L := [(2, 0), (0, i8), (0, i2), (0, (i9 + 1))]) ⟨Or.inr rfl, Or.inr rfl, Or.inr rfl, Or.inr rfl, trivial⟩ (ihlp19_10 (i8) ((i9 + 1))  (by omega) (by omega) (by omega) (by omega)  (by omega))
                  · intro h21; omega
                · intro h22
                  refine zw_push zr_100_10 ?_
                  refine zw_42 zr_100_11 ?_
                  refine zw_R zr_100_15 (by decide) zm_100 (v := (0, 1)) (zRetB (by omega)) ?_
                  rw [← hQ1]
                  show zW E (d) 127 45 [(2, 0), (0, i8), (0, i2), (0, i9)] [(0, 1)] m0 Q
                  refine zw_40_1 zr_127_45 ?_ ?_
                  · intro h23; omega
                  · intro h24
                    refine zw_15h (L' := fun r => [(2, 0), (0, r), (0, i2), (0, i9)]) zr_127_48 rfl (fun _ => rfl) ?_
                    intro x25 hx25a hx25b
                    show zW E (d) 127 51 [(2, 0), (0, x25), (0, i2), (0, i9)] [] m0 Q
                    refine zw_15 (c := 1) (L' := [(2, 0), (0, x25), (0, i2), (0, (i9 + 1))]) zr_127_51 rfl (by decide) (by omega) rfl ?_
                    refine zw_42 zr_127_54 ?_
                    exact zw_less (L := [(2, 0), (0, x25), (0, i2), (0, (i9 + 1))]) ⟨Or.inr rfl, Or.inr rfl, Or.inr rfl, Or.inr rfl, trivial⟩ (ihlp19_10 (x25) ((i9 + 1))  (by omega) (by omega) (by omega) (by omega)  (by omega))
        exact lp19_10 _ (i1) ((i2 + 1))  (by omega) (by omega) (by omega) (by omega)  (Nat.lt_succ_self _)
  exact lp4_3 _ (0) (0)  (by omega) (by omega) (by omega) (by omega)  (Nat.lt_succ_self _)

set_option maxHeartbeats 8000000 in
theorem th_203 {E : zE} {d : Nat} {m0 : zM} (hd : 4 ≤ d) (hI0 : zInv m0) : zC E d 203 [(2, 69)] m0 (fun v m' => ∃ r : Int, v = (0, r) ∧ (-2147483648) ≤ r ∧ r ≤ 2147483647 ∧ m0 = m') := by
  generalize hQ : (fun (v : zV) (m' : zM) => ∃ r : Int, v = (0, r) ∧ (-2147483648) ≤ r ∧ r ≤ 2147483647 ∧ m0 = m') = Q
  show zW E d 203 0 [(2, 69), (9, 0), (9, 0), (9, 0)] [] m0 Q
  refine zw_push zr_203_0 ?_
  refine zw_9 (L' := [(2, 69), (0, 0), (9, 0), (9, 0)]) zr_203_1 (Nat.le_of_ble_eq_true rfl) rfl ?_
  refine zw_push zr_203_2 ?_
  refine zw_9 (L' := [(2, 69), (0, 0), (0, 0), (9, 0)]) zr_203_3 (Nat.le_of_ble_eq_true rfl) rfl ?_
  have lp4_3 : ∀ (nlp4_3 : Nat) (i1 i2 : Int), (-2147483648) ≤ i1 → i1 ≤ 2147483647 → 0 ≤ i2 → i2 ≤ 10 → (10 - i2).toNat < nlp4_3 → zW E (d) 203 4 [(2, 69), (0, i1), (0, i2), (9, 0)] [] m0 Q := by
    intro nlp4_3
    induction nlp4_3 with
    | zero =>
      intros
      exact absurd (by assumption : _ < 0) (Nat.not_lt_zero _)
    | succ nlp4_3 ihlp4_3 =>
      intro i1 i2 li1 ui1 li2 ui2 hmlp4_3
      refine zw_3 zr_203_4 rfl ?_
      refine zw_7 zr_203_5 rfl ?_
      refine zw_C zr_203_6 (Or.inl rfl) zm_141 rfl rfl ⟨Nat.le_of_ble_eq_true rfl, Nat.le_of_ble_eq_true rfl, Nat.le_of_ble_eq_true rfl, rfl, by decide⟩ (by omega) (P := (fun v m' => zW E (d) 203 9 [(2, 69), (0, i1), (0, i2), (9, 0)] (if v.1 = 9 then [(0, i2)] else v :: [(0, i2)]) m' Q)) ?_ (fun _ _ h => h)
      generalize hQ1 : (fun v m' => zW E (d) 203 9 [(2, 69), (0, i1), (0, i2), (9, 0)] (if v.1 = 9 then [(0, i2)] else v :: [(0, i2)]) m' Q) = Q1
      show zW E (d - 1) 141 0 [(2, 69)] [] m0 Q1
      refine zw_7 zr_141_0 rfl ?_
      refine zw_46r (s := 70) zr_141_1 rfl rfl rfl rfl ?_
      refine zw_push zr_141_4 ?_
      obtain ⟨f5, ef5⟩ : ∃ v, m0 70 822 = v := ⟨_, rfl⟩
      have bf5 : 0 ≤ m0 70 822 ∧ m0 70 822 ≤ 10 := ib_70_players hI0 (by omega)
      rw [ef5] at bf5
      refine zw_48k (c := 70) (len := 826) zr_141_7 rfl rfl (by omega) (by omega) (show (822 : Int).toNat = 822 by omega) ef5 ?_
      refine zw_R zr_141_8 (by decide) zm_141 (v := (0, f5)) rfl ?_
      rw [← hQ1]
      show zW E (d) 203 9 [(2, 69), (0, i1), (0, i2), (9, 0)] [(0, f5), (0, i2)] m0 Q
      refine zw_41_3 zr_203_9 ?_ ?_
      · intro h6
        refine zw_3 zr_203_49 rfl ?_
        refine zw_R zr_203_50 (by decide) zm_203 (v := (0, i1)) rfl ?_
        rw [← hQ]; exact ⟨_, rfl, by omega, by omega, rfl⟩
      · intro h7
        refine zw_push zr_203_12 ?_
        refine zw_9 (L' := [(2, 69), (0, i1), (0, i2), (0, 0)]) zr_203_13 (Nat.le_of_ble_eq_true rfl) rfl ?_
        have lp14_10 : ∀ (nlp14_10 : Nat) (i8 i9 : Int), (-2147483648) ≤ i8 → i8 ≤ 2147483647 → 0 ≤ i9 → i9 ≤ 9 → (9 - i9).toNat < nlp14_10 → zW E (d) 203 14 [(2, 69), (0, i8), (0, i2), (0, i9)] [] m0 Q := by
          intro nlp14_10
          induction nlp14_10 with
          | zero =>
            intros
            exact absurd (by assumption : _ < 0) (Nat.not_lt_zero _)
          | succ nlp14_10 ihlp14_10 =>
            intro i8 i9 li8 ui8 li9 ui9 hmlp14_10
            refine zw_3 zr_203_14 rfl ?_
            refine zw_3 zr_203_15 rfl ?_
            refine zw_41_3 zr_203_16 ?_ ?_
            · intro h12
              refine zw_15 (c := 1) (L' := [(2, 69), (0, i8), (0, (i2 + 1)), (0, i9)]) zr_203_43 rfl (by decide) (by omega) rfl ?_
              refine zw_42 zr_203_46 ?_
              exact zw_less (L := [(2, 69), (0, i8), (0, (i2 + 1)), (9, 0)]) ⟨Or.inr rfl, Or.inr rfl, Or.inr rfl, Or.inl rfl, trivial⟩ (ihlp4_3 (i8) ((i2 + 1))  (by omega) (by omega) (by omega) (by omega)  (by omega))
            · intro h13
              refine zw_3 zr_203_19 rfl ?_
              refine zw_7 zr_203_20 rfl ?_
              refine zw_3 zr_203_21 rfl ?_
              refine zw_3 zr_203_22 rfl ?_
              refine zw_push zr_203_23 ?_
              refine zw_C zr_203_24 (Or.inl rfl) zm_200 rfl rfl ⟨Nat.le_of_ble_eq_true rfl, Nat.le_of_ble_eq_true rfl, Nat.le_of_ble_eq_true rfl, rfl, by decide⟩ (by omega) (th_200 (d := d - 1) (by omega) hI0 (a0 := i2) (a1 := i9) (a2 := 0)      (by omega) (by omega) (by omega) ) ?_
              rintro _ _ ⟨r14, rfl, hr14a, hr14b, rfl⟩
              show zW E (d) 203 27 [(2, 69), (0, i8), (0, i2), (0, i9)] [(0, r14), (0, i8)] m0 Q
              refine zw_40_5 zr_203_27 ?_ ?_
              · intro h15
                refine zw_push zr_203_34 ?_
                refine zw_16 zr_203_35 (by omega) ?_
                refine zw_9 (L' := [(2, 69), (0, (i8 + 0)), (0, i2), (0, i9)]) zr_203_36 (Nat.le_of_ble_eq_true rfl) rfl ?_
                refine zw_15 (c := 1) (L' := [(2, 69), (0, (i8 + 0)), (0, i2), (0, (i9 + 1))]) zr_203_37 rfl (by decide) (by omega) rfl ?_
                refine zw_42 zr_203_40 ?_
                exact zw_less (L := [(2, 69), (0, (i8 + 0)), (0, i2), (0, (i9 + 1))]) ⟨Or.inr rfl, Or.inr rfl, Or.inr rfl, Or.inr rfl, trivial⟩ (ihlp14_10 ((i8 + 0)) ((i9 + 1))  (by omega) (by omega) (by omega) (by omega)  (by omega))
              · intro h16
                refine zw_push zr_203_30 ?_
                refine zw_42 zr_203_31 ?_
                refine zw_16h zr_203_35 ?_
                intro x17 hx17a hx17b
                refine zw_9 (L' := [(2, 69), (0, x17), (0, i2), (0, i9)]) zr_203_36 (Nat.le_of_ble_eq_true rfl) rfl ?_
                refine zw_15 (c := 1) (L' := [(2, 69), (0, x17), (0, i2), (0, (i9 + 1))]) zr_203_37 rfl (by decide) (by omega) rfl ?_
                refine zw_42 zr_203_40 ?_
                exact zw_less (L := [(2, 69), (0, x17), (0, i2), (0, (i9 + 1))]) ⟨Or.inr rfl, Or.inr rfl, Or.inr rfl, Or.inr rfl, trivial⟩ (ihlp14_10 (x17) ((i9 + 1))  (by omega) (by omega) (by omega) (by omega)  (by omega))
        exact lp14_10 _ (i1) (0)  (by omega) (by omega) (by omega) (by omega)  (Nat.lt_succ_self _)
  exact lp4_3 _ (0) (0)  (by omega) (by omega) (by omega) (by omega)  (Nat.lt_succ_self _)

abbrev W_129 : List (Nat × Nat) := [(3, 1000), (4, 1000)]
set_option maxHeartbeats 8000000 in
theorem th_129 {E : zE} {d : Nat} {m0 : zM} {a0 : Int} {a1 : Int} {a2 : Int} {a3 : Int} {g0 : Int} {F3 : Nat → Int} {F4 : Nat → Int} (hd : 3 ≤ d) (hI0 : zInv m0) (hg0 : m0 1 0 = g0) (hG3 : m0 3 = F3) (hG4 : m0 4 = F4) (ha0 : (-2147483648) ≤ a0 ∧ a0 ≤ 2147483647) (ha1 : (-2147483648) ≤ a1 ∧ a1 ≤ 2147483647) (ha2 : (-2147483648) ≤ a2 ∧ a2 ≤ 2147483647) (ha3 : (-2147483648) ≤ a3 ∧ a3 ≤ 2147483647) : zC E d 129 [(2, 0), (0, a0), (0, a1), (0, a2), (0, a3)] m0 (fun v m' => ∃ r : Int, v = (0, r) ∧ (-2) ≤ r ∧ r ≤ 1 ∧ zInv m' ∧ zFr W_129 m0 m' ∧ ((r = -2 ∧ (a0 < 0 ∨ g0 ≤ a0 ∨ a1 < 0 ∨ 3 < a1 ∨ a3 < 1 ∨ 99 < a3 ∨ a2 < 0 ∨ a3 < a2)) ∨ (r = 1 ∧ (0 ≤ a0 ∧ a0 < g0 ∧ 0 ≤ a1 ∧ a1 ≤ 3 ∧ 1 ≤ a3 ∧ a3 ≤ 99 ∧ 0 ≤ a2 ∧ a2 ≤ a3))) ∧ (m' 3 = if 0 ≤ r then zPt F3 (a0 * 4 + a1).toNat a2 else F3) ∧ (m' 4 = if 0 ≤ r then zPt F4 (a0 * 4 + a1).toNat a3 else F4)) := by
  have hF0 : zFr W_129 m0 m0 := zFr.rfl
  have bg0 := ib_1_0 hI0
  rw [hg0] at bg0
  generalize hQ : (fun (v : zV) (m' : zM) => ∃ r : Int, v = (0, r) ∧ (-2) ≤ r ∧ r ≤ 1 ∧ zInv m' ∧ zFr W_129 m0 m' ∧ ((r = -2 ∧ (a0 < 0 ∨ g0 ≤ a0 ∨ a1 < 0 ∨ 3 < a1 ∨ a3 < 1 ∨ 99 < a3 ∨ a2 < 0 ∨ a3 < a2)) ∨ (r = 1 ∧ (0 ≤ a0 ∧ a0 < g0 ∧ 0 ≤ a1 ∧ a1 ≤ 3 ∧ 1 ≤ a3 ∧ a3 ≤ 99 ∧ 0 ≤ a2 ∧ a2 ≤ a3))) ∧ (m' 3 = if 0 ≤ r then zPt F3 (a0 * 4 + a1).toNat a2 else F3) ∧ (m' 4 = if 0 ≤ r then zPt F4 (a0 * 4 + a1).toNat a3 else F4)) = Q
  show zW E d 129 0 [(2, 0), (0, a0), (0, a1), (0, a2), (0, a3)] [] m0 Q
  refine zw_7 zr_129_0 rfl ?_
  refine zw_46r (s := 1) zr_129_1 rfl rfl rfl rfl ?_
  refine zw_3 zr_129_4 rfl ?_
  refine zw_C zr_129_5 (Or.inl rfl) zm_49 rfl rfl ⟨Nat.le_of_ble_eq_true rfl, Nat.le_of_ble_eq_true rfl, Nat.le_of_ble_eq_true rfl, rfl, by decide⟩ (by omega) (P := (fun v m' => zW E (d) 129 8 [(2, 0), (0, a0), (0, a1), (0, a2), (0, a3)] (if v.1 = 9 then [] else v :: []) m' Q)) ?_ (fun _ _ h => h)
  generalize hQ1 : (fun v m' => zW E (d) 129 8 [(2, 0), (0, a0), (0, a1), (0, a2), (0, a3)] (if v.1 = 9 then [] else v :: []) m' Q) = Q1
  show zW E (d - 1) 49 0 [(2, 1), (0, a0)] [] m0 Q1
  refine zw_3 zr_49_0 rfl ?_
  refine zw_40_0 zr_49_1 ?_ ?_
  · intro h1
    refine zw_push zr_49_16 ?_
    refine zw_R zr_49_17 (by decide) zm_49 (v := (0, 0)) (zRetB (by omega)) ?_
    rw [← hQ1]
    show zW E (d) 129 8 [(2, 0), (0, a0), (0, a1), (0, a2), (0, a3)] [(0, 0)] m0 Q
    refine zw_40_1 zr_129_8 ?_ ?_
    · intro h2
      refine zw_push zr_129_18 ?_
      refine zw_R zr_129_20 (by decide) zm_129 (v := (0, (-2))) rfl ?_
      rw [← hQ]; exact ⟨_, rfl, by omega, by omega, hI0, hF0, by omega, by rw [hG3]; first | exact (if_neg (by omega)).symm | exact (if_pos (by omega)).symm, by rw [hG4]; first | exact (if_neg (by omega)).symm | exact (if_pos (by omega)).symm⟩
    · intro h6; omega
  · intro h7
    refine zw_3 zr_49_4 rfl ?_
    refine zw_7 zr_49_5 rfl ?_
    refine zw_46i zr_49_6 hg0 rfl rfl rfl ?_
    refine zw_41_3 zr_49_9 ?_ ?_
    · intro h8
      refine zw_push zr_49_16 ?_
      refine zw_R zr_49_17 (by decide) zm_49 (v := (0, 0)) (zRetB (by omega)) ?_
      rw [← hQ1]
      show zW E (d) 129 8 [(2, 0), (0, a0), (0, a1), (0, a2), (0, a3)] [(0, 0)] m0 Q
      refine zw_40_1 zr_129_8 ?_ ?_
      · intro h9
        refine zw_push zr_129_18 ?_
        refine zw_R zr_129_20 (by decide) zm_129 (v := (0, (-2))) rfl ?_
        rw [← hQ]; exact ⟨_, rfl, by omega, by omega, hI0, hF0, by omega, by rw [hG3]; first | exact (if_neg (by omega)).symm | exact (if_pos (by omega)).symm, by rw [hG4]; first | exact (if_neg (by omega)).symm | exact (if_pos (by omega)).symm⟩
      · intro h13; omega
    · intro h14
      refine zw_push zr_49_12 ?_
      refine zw_42 zr_49_13 ?_
      refine zw_R zr_49_17 (by decide) zm_49 (v := (0, 1)) (zRetB (by omega)) ?_
      rw [← hQ1]
      show zW E (d) 129 8 [(2, 0), (0, a0), (0, a1), (0, a2), (0, a3)] [(0, 1)] m0 Q
      refine zw_40_1 zr_129_8 ?_ ?_
      · intro h15; omega
      · intro h16
        refine zw_3 zr_129_11 rfl ?_
        refine zw_C zr_129_12 (Or.inr rfl) zm_128 rfl rfl ⟨Nat.le_of_ble_eq_true rfl, Nat.le_of_ble_eq_true rfl, Nat.le_of_ble_eq_true rfl, rfl, by decide⟩ (by omega) (P := (fun v m' => zW E (d) 129 15 [(2, 0), (0, a0), (0, a1), (0, a2), (0, a3)] (if v.1 = 9 then [] else v :: []) m' Q)) ?_ (fun _ _ h => h)
        generalize hQ1 : (fun v m' => zW E (d) 129 15 [(2, 0), (0, a0), (0, a1), (0, a2), (0, a3)] (if v.1 = 9 then [] else v :: []) m' Q) = Q1
        show zW E (d - 1) 128 0 [(0, a1)] [] m0 Q1
        refine zw_3 zr_128_0 rfl ?_
        refine zw_push zr_128_1 ?_
        refine zw_push zr_128_2 ?_
        refine zw_C zr_128_3 (Or.inr rfl) zm_100 rfl rfl ⟨Nat.le_of_ble_eq_true rfl, Nat.le_of_ble_eq_true rfl, Nat.le_of_ble_eq_true rfl, rfl, by decide⟩ (by omega) (P := (fun v m' => zW E (d - 1) 128 6 [(0, a1)] (if v.1 = 9 then [] else v :: []) m' Q1)) ?_ (fun _ _ h => h)
        generalize hQ2 : (fun v m' => zW E (d - 1) 128 6 [(0, a1)] (if v.1 = 9 then [] else v :: []) m' Q1) = Q2
        show zW E (d - 1 - 1) 100 0 [(0, a1), (0, 0), (0, 3)] [] m0 Q2
        refine zw_3 zr_100_0 rfl ?_
        refine zw_3 zr_100_1 rfl ?_
        refine zw_41_0 zr_100_2 ?_ ?_
        · intro h17
          refine zw_push zr_100_14 ?_
          refine zw_R zr_100_15 (by decide) zm_100 (v := (0, 0)) (zRetB (by omega)) ?_
          rw [← hQ2]
          show zW E (d - 1) 128 6 [(0, a1)] [(0, 0)] m0 Q1
          refine zw_R zr_128_6 (by decide) zm_128 (v := (0, 0)) (zRetB (by omega)) ?_
          rw [← hQ1]
          show zW E (d) 129 15 [(2, 0), (0, a0), (0, a1), (0, a2), (0, a3)] [(0, 0)] m0 Q
          refine zw_40_4 zr_129_15 ?_ ?_
          · intro h18; omega
          · intro h19
            refine zw_push zr_129_18 ?_
            refine zw_R zr_129_20 (by decide) zm_129 (v := (0, (-2))) rfl ?_
            rw [← hQ]; exact ⟨_, rfl, by omega, by omega, hI0, hF0, by omega, by rw [hG3]; first | exact (if_neg (by omega)).symm | exact (if_pos (by omega)).symm, by rw [hG4]; first | exact (if_neg (by omega)).symm | exact (if_pos (by omega)).symm⟩
        · intro h23
          refine zw_3 zr_100_5 rfl ?_
          refine zw_3 zr_100_6 rfl ?_
          refine zw_41_2 zr_100_7 ?_ ?_
          · intro h24
            refine zw_push zr_100_14 ?_
            refine zw_R zr_100_15 (by decide) zm_100 (v := (0, 0)) (zRetB (by omega)) ?_
            rw [← hQ2]
            show zW E (d - 1) 128 6 [(0, a1)] [(0, 0)] m0 Q1
            refine zw_R zr_128_6 (by decide) zm_128 (v := (0, 0)) (zRetB (by omega)) ?_
            rw [← hQ1]
            show zW E (d) 129 15 [(2, 0), (0, a0), (0, a1), (0, a2), (0, a3)] [(0, 0)] m0 Q
            refine zw_40_4 zr_129_15 ?_ ?_
            · intro h25; omega
            · intro h26
              refine zw_push zr_129_18 ?_
              refine zw_R zr_129_20 (by decide) zm_129 (v := (0, (-2))) rfl ?_
              rw [← hQ]; exact ⟨_, rfl, by omega, by omega, hI0, hF0, by omega, by rw [hG3]; first | exact (if_neg (by omega)).symm | exact (if_pos (by omega)).symm, by rw [hG4]; first | exact (if_neg (by omega)).symm | exact (if_pos (by omega)).symm⟩
          · intro h30
            refine zw_push zr_100_10 ?_
            refine zw_42 zr_100_11 ?_
            refine zw_R zr_100_15 (by decide) zm_100 (v := (0, 1)) (zRetB (by omega)) ?_
            rw [← hQ2]
            show zW E (d - 1) 128 6 [(0, a1)] [(0, 1)] m0 Q1
            refine zw_R zr_128_6 (by decide) zm_128 (v := (0, 1)) (zRetB (by omega)) ?_
            rw [← hQ1]
            show zW E (d) 129 15 [(2, 0), (0, a0), (0, a1), (0, a2), (0, a3)] [(0, 1)] m0 Q
            refine zw_40_4 zr_129_15 ?_ ?_
            · intro h31
              refine zw_4 zr_129_21 rfl ?_
              refine zw_push zr_129_23 ?_
              refine zw_push zr_129_24 ?_
              refine zw_C zr_129_26 (Or.inr rfl) zm_100 rfl rfl ⟨Nat.le_of_ble_eq_true rfl, Nat.le_of_ble_eq_true rfl, Nat.le_of_ble_eq_true rfl, rfl, by decide⟩ (by omega) (P := (fun v m' => zW E (d) 129 29 [(2, 0), (0, a0), (0, a1), (0, a2), (0, a3)] (if v.1 = 9 then [] else v :: []) m' Q)) ?_ (fun _ _ h => h)
              generalize hQ1 : (fun v m' => zW E (d) 129 29 [(2, 0), (0, a0), (0, a1), (0, a2), (0, a3)] (if v.1 = 9 then [] else v :: []) m' Q) = Q1
              show zW E (d - 1) 100 0 [(0, a3), (0, 1), (0, 99)] [] m0 Q1
              refine zw_3 zr_100_0 rfl ?_
              refine zw_3 zr_100_1 rfl ?_
              refine zw_41_0 zr_100_2 ?_ ?_
              · intro h32
                refine zw_push zr_100_14 ?_
                refine zw_R zr_100_15 (by decide) zm_100 (v := (0, 0)) (zRetB (by omega)) ?_
                rw [← hQ1]
                show zW E (d) 129 29 [(2, 0), (0, a0), (0, a1), (0, a2), (0, a3)] [(0, 0)] m0 Q
                refine zw_40_1 zr_129_29 ?_ ?_
                · intro h33
                  refine zw_push zr_129_42 ?_
                  refine zw_R zr_129_44 (by decide) zm_129 (v := (0, (-2))) rfl ?_
                  rw [← hQ]; exact ⟨_, rfl, by omega, by omega, hI0, hF0, by omega, by rw [hG3]; first | exact (if_neg (by omega)).symm | exact (if_pos (by omega)).symm, by rw [hG4]; first | exact (if_neg (by omega)).symm | exact (if_pos (by omega)).symm⟩
                · intro h37; omega
              · intro h38
                refine zw_3 zr_100_5 rfl ?_
                refine zw_3 zr_100_6 rfl ?_
                refine zw_41_2 zr_100_7 ?_ ?_
                · intro h39
                  refine zw_push zr_100_14 ?_
                  refine zw_R zr_100_15 (by decide) zm_100 (v := (0, 0)) (zRetB (by omega)) ?_
                  rw [← hQ1]
                  show zW E (d) 129 29 [(2, 0), (0, a0), (0, a1), (0, a2), (0, a3)] [(0, 0)] m0 Q
                  refine zw_40_1 zr_129_29 ?_ ?_
                  · intro h40
                    refine zw_push zr_129_42 ?_
                    refine zw_R zr_129_44 (by decide) zm_129 (v := (0, (-2))) rfl ?_
                    rw [← hQ]; exact ⟨_, rfl, by omega, by omega, hI0, hF0, by omega, by rw [hG3]; first | exact (if_neg (by omega)).symm | exact (if_pos (by omega)).symm, by rw [hG4]; first | exact (if_neg (by omega)).symm | exact (if_pos (by omega)).symm⟩
                  · intro h44; omega
                · intro h45
                  refine zw_push zr_100_10 ?_
                  refine zw_42 zr_100_11 ?_
                  refine zw_R zr_100_15 (by decide) zm_100 (v := (0, 1)) (zRetB (by omega)) ?_
                  rw [← hQ1]
                  show zW E (d) 129 29 [(2, 0), (0, a0), (0, a1), (0, a2), (0, a3)] [(0, 1)] m0 Q
                  refine zw_40_1 zr_129_29 ?_ ?_
                  · intro h46; omega
                  · intro h47
                    refine zw_3 zr_129_32 rfl ?_
                    refine zw_push zr_129_33 ?_
                    refine zw_4 zr_129_34 rfl ?_
                    refine zw_C zr_129_36 (Or.inr rfl) zm_100 rfl rfl ⟨Nat.le_of_ble_eq_true rfl, Nat.le_of_ble_eq_true rfl, Nat.le_of_ble_eq_true rfl, rfl, by decide⟩ (by omega) (P := (fun v m' => zW E (d) 129 39 [(2, 0), (0, a0), (0, a1), (0, a2), (0, a3)] (if v.1 = 9 then [] else v :: []) m' Q)) ?_ (fun _ _ h => h)
                    generalize hQ1 : (fun v m' => zW E (d) 129 39 [(2, 0), (0, a0), (0, a1), (0, a2), (0, a3)] (if v.1 = 9 then [] else v :: []) m' Q) = Q1
                    show zW E (d - 1) 100 0 [(0, a2), (0, 0), (0, a3)] [] m0 Q1
                    refine zw_3 zr_100_0 rfl ?_
                    refine zw_3 zr_100_1 rfl ?_
                    refine zw_41_0 zr_100_2 ?_ ?_
                    · intro h48
                      refine zw_push zr_100_14 ?_
                      refine zw_R zr_100_15 (by decide) zm_100 (v := (0, 0)) (zRetB (by omega)) ?_
                      rw [← hQ1]
                      show zW E (d) 129 39 [(2, 0), (0, a0), (0, a1), (0, a2), (0, a3)] [(0, 0)] m0 Q
                      refine zw_40_4 zr_129_39 ?_ ?_
                      · intro h49; omega
                      · intro h50
                        refine zw_push zr_129_42 ?_
                        refine zw_R zr_129_44 (by decide) zm_129 (v := (0, (-2))) rfl ?_
                        rw [← hQ]; exact ⟨_, rfl, by omega, by omega, hI0, hF0, by omega, by rw [hG3]; first | exact (if_neg (by omega)).symm | exact (if_pos (by omega)).symm, by rw [hG4]; first | exact (if_neg (by omega)).symm | exact (if_pos (by omega)).symm⟩
                    · intro h54
                      refine zw_3 zr_100_5 rfl ?_
                      refine zw_3 zr_100_6 rfl ?_
                      refine zw_41_2 zr_100_7 ?_ ?_
                      · intro h55
                        refine zw_push zr_100_14 ?_
                        refine zw_R zr_100_15 (by decide) zm_100 (v := (0, 0)) (zRetB (by omega)) ?_
                        rw [← hQ1]
                        show zW E (d) 129 39 [(2, 0), (0, a0), (0, a1), (0, a2), (0, a3)] [(0, 0)] m0 Q
                        refine zw_40_4 zr_129_39 ?_ ?_
                        · intro h56; omega
                        · intro h57
                          refine zw_push zr_129_42 ?_
                          refine zw_R zr_129_44 (by decide) zm_129 (v := (0, (-2))) rfl ?_
                          rw [← hQ]; exact ⟨_, rfl, by omega, by omega, hI0, hF0, by omega, by rw [hG3]; first | exact (if_neg (by omega)).symm | exact (if_pos (by omega)).symm, by rw [hG4]; first | exact (if_neg (by omega)).symm | exact (if_pos (by omega)).symm⟩
                      · intro h61
                        refine zw_push zr_100_10 ?_
                        refine zw_42 zr_100_11 ?_
                        refine zw_R zr_100_15 (by decide) zm_100 (v := (0, 1)) (zRetB (by omega)) ?_
                        rw [← hQ1]
                        show zW E (d) 129 39 [(2, 0), (0, a0), (0, a1), (0, a2), (0, a3)] [(0, 1)] m0 Q
                        refine zw_40_4 zr_129_39 ?_ ?_
                        · intro h62
                          refine zw_7 zr_129_45 rfl ?_
                          refine zw_46r (s := 1) zr_129_46 rfl rfl rfl rfl ?_
                          refine zw_46r (s := 3) zr_129_49 rfl rfl rfl rfl ?_
                          refine zw_3 zr_129_52 rfl ?_
                          refine zw_push zr_129_53 ?_
                          refine zw_18 zr_129_54 (by omega) ?_
                          refine zw_3 zr_129_55 rfl ?_
                          refine zw_16 zr_129_56 (by omega) ?_
                          refine zw_3 zr_129_57 rfl ?_
                          refine zw_49 (c := 3) (len := 40) zr_129_58 rfl rfl (by omega) (by omega) ?_
                          intro m63 em63
                          have hIm63 : zInv m63 := by rw [em63]; exact iu_3 hI0 (by omega)
                          have hFm63 : zFr W_129 m0 m63 := by rw [em63]; exact hF0.any rfl
                          have km63_1_0 : m63 1 0 = g0 := by rw [em63, zUp_ne (by omega)]; exact hg0
                          have fm63_3 : m63 3 = zPt F3 ((((a0 * 4) + a1)).toNat) a2 := by rw [em63]; exact (zUp_ff (m := m0)).trans (congrArg (fun q => zPt q ((((a0 * 4) + a1)).toNat) a2) hG3)
                          have fm63_4 : m63 4 = F4 := by rw [em63, zUp_fn (by decide)]; exact hG4
                          clear em63
                          refine zw_7 zr_129_59 rfl ?_
                          refine zw_46r (s := 1) zr_129_60 rfl rfl rfl rfl ?_
                          refine zw_46r (s := 4) zr_129_63 rfl rfl rfl rfl ?_
                          refine zw_3 zr_129_66 rfl ?_
                          refine zw_push zr_129_67 ?_
                          refine zw_18 zr_129_68 (by omega) ?_
                          refine zw_3 zr_129_69 rfl ?_
                          refine zw_16 zr_129_70 (by omega) ?_
                          refine zw_4 zr_129_71 rfl ?_
                          refine zw_49 (c := 4) (len := 40) zr_129_73 rfl rfl (by omega) (by omega) ?_
                          intro m64 em64
                          have hIm64 : zInv m64 := by rw [em64]; exact iu_4 hIm63 (by omega)
                          have hFm64 : zFr W_129 m0 m64 := by rw [em64]; exact hFm63.any rfl
                          have km64_1_0 : m64 1 0 = g0 := by rw [em64, zUp_ne (by omega)]; exact km63_1_0
                          have fm64_3 : m64 3 = zPt F3 ((((a0 * 4) + a1)).toNat) a2 := by rw [em64, zUp_fn (by decide)]; exact fm63_3
                          have fm64_4 : m64 4 = zPt F4 ((((a0 * 4) + a1)).toNat) a3 := by rw [em64]; exact (zUp_ff (m := m63)).trans (congrArg (fun q => zPt q ((((a0 * 4) + a1)).toNat) a3) fm63_4)
                          clear em64
                          refine zw_push zr_129_74 ?_
                          refine zw_R zr_129_75 (by decide) zm_129 (v := (0, 1)) rfl ?_
                          rw [← hQ]; exact ⟨_, rfl, by omega, by omega, hIm64, hFm64, by omega, by rw [fm64_3]; first | exact (if_neg (by omega)).symm | exact (if_pos (by omega)).symm, by rw [fm64_4]; first | exact (if_neg (by omega)).symm | exact (if_pos (by omega)).symm⟩
                        · intro h68; omega
            · intro h69; omega

abbrev W_204 : List (Nat × Nat) := [(70, 1000)]
set_option maxHeartbeats 8000000 in
theorem th_204 {E : zE} {d : Nat} {m0 : zM} {a0 : Int} {a1 : Int} {a2 : Int} {a3 : Int} {g0 : Int} {F70 : Nat → Int} (hd : 3 ≤ d) (hI0 : zInv m0) (hg0 : m0 70 822 = g0) (hG70 : m0 70 = F70) (ha0 : (-2147483648) ≤ a0 ∧ a0 ≤ 2147483647) (ha1 : (-2147483648) ≤ a1 ∧ a1 ≤ 2147483647) (ha2 : (-2147483648) ≤ a2 ∧ a2 ≤ 2147483647) (ha3 : (-2147483648) ≤ a3 ∧ a3 ≤ 2147483647) : zC E d 204 [(2, 69), (0, a0), (0, a1), (0, a2), (0, a3)] m0 (fun v m' => ∃ r : Int, v = (0, r) ∧ (-2) ≤ r ∧ r ≤ 1 ∧ zInv m' ∧ zFr W_204 m0 m' ∧ ((r = -2 ∧ (a0 < 0 ∨ g0 ≤ a0 ∨ a1 < 0 ∨ 3 < a1 ∨ a3 < 1 ∨ 99 < a3 ∨ a2 < 0 ∨ a3 < a2)) ∨ (r = 1 ∧ (0 ≤ a0 ∧ a0 < g0 ∧ 0 ≤ a1 ∧ a1 ≤ 3 ∧ 1 ≤ a3 ∧ a3 ≤ 99 ∧ 0 ≤ a2 ∧ a2 ≤ a3))) ∧ (m' 70 = if 0 ≤ r then zPt (zPt F70 (10 + 8 * a0 + 2 * a1).toNat a2) (10 + 8 * a0 + 2 * a1 + 1).toNat a3 else F70)) := by
  have hF0 : zFr W_204 m0 m0 := zFr.rfl
  have bg0 : 0 ≤ m0 70 822 ∧ m0 70 822 ≤ 10 := ib_70_players hI0 (by omega)
  rw [hg0] at bg0
  generalize hQ : (fun (v : zV) (m' : zM) => ∃ r : Int, v = (0, r) ∧ (-2) ≤ r ∧ r ≤ 1 ∧ zInv m' ∧ zFr W_204 m0 m' ∧ ((r = -2 ∧ (a0 < 0 ∨ g0 ≤ a0 ∨ a1 < 0 ∨ 3 < a1 ∨ a3 < 1 ∨ 99 < a3 ∨ a2 < 0 ∨ a3 < a2)) ∨ (r = 1 ∧ (0 ≤ a0 ∧ a0 < g0 ∧ 0 ≤ a1 ∧ a1 ≤ 3 ∧ 1 ≤ a3 ∧ a3 ≤ 99 ∧ 0 ≤ a2 ∧ a2 ≤ a3))) ∧ (m' 70 = if 0 ≤ r then zPt (zPt F70 (10 + 8 * a0 + 2 * a1).toNat a2) (10 + 8 * a0 + 2 * a1 + 1).toNat a3 else F70)) = Q
  show zW E d 204 0 [(2, 69), (0, a0), (0, a1), (0, a2), (0, a3)] [] m0 Q
  refine zw_7 zr_204_0 rfl ?_
  refine zw_3 zr_204_1 rfl ?_
  refine zw_C zr_204_2 (Or.inl rfl) zm_143 rfl rfl ⟨Nat.le_of_ble_eq_true rfl, Nat.le_of_ble_eq_true rfl, Nat.le_of_ble_eq_true rfl, rfl, by decide⟩ (by omega) (P := (fun v m' => zW E (d) 204 5 [(2, 69), (0, a0), (0, a1), (0, a2), (0, a3)] (if v.1 = 9 then [] else v :: []) m' Q)) ?_ (fun _ _ h => h)
  generalize hQ1 : (fun v m' => zW E (d) 204 5 [(2, 69), (0, a0), (0, a1), (0, a2), (0, a3)] (if v.1 = 9 then [] else v :: []) m' Q) = Q1
  show zW E (d - 1) 143 0 [(2, 69), (0, a0)] [] m0 Q1
  refine zw_3 zr_143_0 rfl ?_
  refine zw_36 zr_143_1 ?_
  refine zw_push zr_143_2 ?_
  refine zw_7 zr_143_3 rfl ?_
  refine zw_C zr_143_4 (Or.inl rfl) zm_141 rfl rfl ⟨Nat.le_of_ble_eq_true rfl, Nat.le_of_ble_eq_true rfl, Nat.le_of_ble_eq_true rfl, rfl, by decide⟩ (by omega) (P := (fun v m' => zW E (d - 1) 143 7 [(2, 69), (0, a0)] (if v.1 = 9 then [(1, 0), (1, a0)] else v :: [(1, 0), (1, a0)]) m' Q1)) ?_ (fun _ _ h => h)
  generalize hQ2 : (fun v m' => zW E (d - 1) 143 7 [(2, 69), (0, a0)] (if v.1 = 9 then [(1, 0), (1, a0)] else v :: [(1, 0), (1, a0)]) m' Q1) = Q2
  show zW E (d - 1 - 1) 141 0 [(2, 69)] [] m0 Q2
  refine zw_7 zr_141_0 rfl ?_
  refine zw_46r (s := 70) zr_141_1 rfl rfl rfl rfl ?_
  refine zw_push zr_141_4 ?_
  refine zw_48k (c := 70) (len := 826) zr_141_7 rfl rfl (by omega) (by omega) (show (822 : Int).toNat = 822 by omega) hg0 ?_
  refine zw_R zr_141_8 (by decide) zm_141 (v := (0, g0)) rfl ?_
  rw [← hQ2]
  show zW E (d - 1) 143 7 [(2, 69), (0, a0)] [(0, g0), (1, 0), (1, a0)] m0 Q1
  refine zw_push zr_143_7 ?_
  refine zw_17 zr_143_8 (by omega) ?_
  refine zw_36 zr_143_9 ?_
  refine zw_C zr_143_10 (Or.inr rfl) zm_140 rfl rfl ⟨Nat.le_of_ble_eq_true rfl, Nat.le_of_ble_eq_true rfl, Nat.le_of_ble_eq_true rfl, rfl, by decide⟩ (by omega) (P := (fun v m' => zW E (d - 1) 143 13 [(2, 69), (0, a0)] (if v.1 = 9 then [] else v :: []) m' Q1)) ?_ (fun _ _ h => h)
  generalize hQ2 : (fun v m' => zW E (d - 1) 143 13 [(2, 69), (0, a0)] (if v.1 = 9 then [] else v :: []) m' Q1) = Q2
  show zW E (d - 1 - 1) 140 0 [(1, a0), (9, 0), (1, 0), (9, 0), (1, (g0 - 1)), (9, 0)] [] m0 Q2
  refine zw_5 zr_140_0 rfl ?_
  refine zw_5 zr_140_1 rfl ?_
  refine zw_39_0 zr_140_2 zr_140_3 ?_ ?_
  · intro h1
    refine zw_push zr_140_17 ?_
    refine zw_R zr_140_18 (by decide) zm_140 (v := (0, 0)) (zRetB (by omega)) ?_
    rw [← hQ2]
    show zW E (d - 1) 143 13 [(2, 69), (0, a0)] [(0, 0)] m0 Q1
    refine zw_R zr_143_13 (by decide) zm_143 (v := (0, 0)) (zRetB (by omega)) ?_
    rw [← hQ1]
    show zW E (d) 204 5 [(2, 69), (0, a0), (0, a1), (0, a2), (0, a3)] [(0, 0)] m0 Q
    refine zw_40_1 zr_204_5 ?_ ?_
    · intro h2
      refine zw_push zr_204_40 ?_
      refine zw_R zr_204_42 (by decide) zm_204 (v := (0, (-2))) rfl ?_
      rw [← hQ]; exact ⟨_, rfl, by omega, by omega, hI0, hF0, by omega, by rw [hG70]; first | exact (if_neg (by omega)).symm | exact (if_pos (by omega)).symm⟩
    · intro h5; omega
  · intro h6
    refine zw_5 zr_140_6 rfl ?_
    refine zw_6 zr_140_7 rfl ?_
    refine zw_39_2 zr_140_9 zr_140_10 ?_ ?_
    · intro h7
      refine zw_push zr_140_17 ?_
      refine zw_R zr_140_18 (by decide) zm_140 (v := (0, 0)) (zRetB (by omega)) ?_
      rw [← hQ2]
      show zW E (d - 1) 143 13 [(2, 69), (0, a0)] [(0, 0)] m0 Q1
      refine zw_R zr_143_13 (by decide) zm_143 (v := (0, 0)) (zRetB (by omega)) ?_
      rw [← hQ1]
      show zW E (d) 204 5 [(2, 69), (0, a0), (0, a1), (0, a2), (0, a3)] [(0, 0)] m0 Q
      refine zw_40_1 zr_204_5 ?_ ?_
      · intro h8
        refine zw_push zr_204_40 ?_
        refine zw_R zr_204_42 (by decide) zm_204 (v := (0, (-2))) rfl ?_
        rw [← hQ]; exact ⟨_, rfl, by omega, by omega, hI0, hF0, by omega, by rw [hG70]; first | exact (if_neg (by omega)).symm | exact (if_pos (by omega)).symm⟩
      · intro h11; omega
    · intro h12
      refine zw_push zr_140_13 ?_
      refine zw_42 zr_140_14 ?_
      refine zw_R zr_140_18 (by decide) zm_140 (v := (0, 1)) (zRetB (by omega)) ?_
      rw [← hQ2]
      show zW E (d - 1) 143 13 [(2, 69), (0, a0)] [(0, 1)] m0 Q1
      refine zw_R zr_143_13 (by decide) zm_143 (v := (0, 1)) (zRetB (by omega)) ?_
      rw [← hQ1]
      show zW E (d) 204 5 [(2, 69), (0, a0), (0, a1), (0, a2), (0, a3)] [(0, 1)] m0 Q
      refine zw_40_1 zr_204_5 ?_ ?_
      · intro h13; omega
      · intro h14
        refine zw_3 zr_204_8 rfl ?_
        refine zw_C zr_204_9 (Or.inr rfl) zm_148 rfl rfl ⟨Nat.le_of_ble_eq_true rfl, Nat.le_of_ble_eq_true rfl, Nat.le_of_ble_eq_true rfl, rfl, by decide⟩ (by omega) (P := (fun v m' => zW E (d) 204 12 [(2, 69), (0, a0), (0, a1), (0, a2), (0, a3)] (if v.1 = 9 then [] else v :: []) m' Q)) ?_ (fun _ _ h => h)
        generalize hQ1 : (fun v m' => zW E (d) 204 12 [(2, 69), (0, a0), (0, a1), (0, a2), (0, a3)] (if v.1 = 9 then [] else v :: []) m' Q) = Q1
        show zW E (d - 1) 148 0 [(0, a1)] [] m0 Q1
        refine zw_3 zr_148_0 rfl ?_
        refine zw_36 zr_148_1 ?_
        refine zw_push zr_148_2 ?_
        refine zw_push zr_148_3 ?_
        refine zw_C zr_148_6 (Or.inr rfl) zm_140 rfl rfl ⟨Nat.le_of_ble_eq_true rfl, Nat.le_of_ble_eq_true rfl, Nat.le_of_ble_eq_true rfl, rfl, by decide⟩ (by omega) (P := (fun v m' => zW E (d - 1) 148 9 [(0, a1)] (if v.1 = 9 then [] else v :: []) m' Q1)) ?_ (fun _ _ h => h)
        generalize hQ2 : (fun v m' => zW E (d - 1) 148 9 [(0, a1)] (if v.1 = 9 then [] else v :: []) m' Q1) = Q2
        show zW E (d - 1 - 1) 140 0 [(1, a1), (9, 0), (1, 0), (9, 0), (1, 3), (9, 0)] [] m0 Q2
        refine zw_5 zr_140_0 rfl ?_
        refine zw_5 zr_140_1 rfl ?_
        refine zw_39_0 zr_140_2 zr_140_3 ?_ ?_
        · intro h15
          refine zw_push zr_140_17 ?_
          refine zw_R zr_140_18 (by decide) zm_140 (v := (0, 0)) (zRetB (by omega)) ?_
          rw [← hQ2]
          show zW E (d - 1) 148 9 [(0, a1)] [(0, 0)] m0 Q1
          refine zw_R zr_148_9 (by decide) zm_148 (v := (0, 0)) (zRetB (by omega)) ?_
          rw [← hQ1]
          show zW E (d) 204 12 [(2, 69), (0, a0), (0, a1), (0, a2), (0, a3)] [(0, 0)] m0 Q
          refine zw_40_1 zr_204_12 ?_ ?_
          · intro h16
            refine zw_push zr_204_40 ?_
            refine zw_R zr_204_42 (by decide) zm_204 (v := (0, (-2))) rfl ?_
            rw [← hQ]; exact ⟨_, rfl, by omega, by omega, hI0, hF0, by omega, by rw [hG70]; first | exact (if_neg (by omega)).symm | exact (if_pos (by omega)).symm⟩
          · intro h19; omega
        · intro h20
          refine zw_5 zr_140_6 rfl ?_
          refine zw_6 zr_140_7 rfl ?_
          refine zw_39_2 zr_140_9 zr_140_10 ?_ ?_
          · intro h21
            refine zw_push zr_140_17 ?_
            refine zw_R zr_140_18 (by decide) zm_140 (v := (0, 0)) (zRetB (by omega)) ?_
            rw [← hQ2]
            show zW E (d - 1) 148 9 [(0, a1)] [(0, 0)] m0 Q1
            refine zw_R zr_148_9 (by decide) zm_148 (v := (0, 0)) (zRetB (by omega)) ?_
            rw [← hQ1]
            show zW E (d) 204 12 [(2, 69), (0, a0), (0, a1), (0, a2), (0, a3)] [(0, 0)] m0 Q
            refine zw_40_1 zr_204_12 ?_ ?_
            · intro h22
              refine zw_push zr_204_40 ?_
              refine zw_R zr_204_42 (by decide) zm_204 (v := (0, (-2))) rfl ?_
              rw [← hQ]; exact ⟨_, rfl, by omega, by omega, hI0, hF0, by omega, by rw [hG70]; first | exact (if_neg (by omega)).symm | exact (if_pos (by omega)).symm⟩
            · intro h25; omega
          · intro h26
            refine zw_push zr_140_13 ?_
            refine zw_42 zr_140_14 ?_
            refine zw_R zr_140_18 (by decide) zm_140 (v := (0, 1)) (zRetB (by omega)) ?_
            rw [← hQ2]
            show zW E (d - 1) 148 9 [(0, a1)] [(0, 1)] m0 Q1
            refine zw_R zr_148_9 (by decide) zm_148 (v := (0, 1)) (zRetB (by omega)) ?_
            rw [← hQ1]
            show zW E (d) 204 12 [(2, 69), (0, a0), (0, a1), (0, a2), (0, a3)] [(0, 1)] m0 Q
            refine zw_40_1 zr_204_12 ?_ ?_
            · intro h27; omega
            · intro h28
              refine zw_4 zr_204_15 rfl ?_
              refine zw_36 zr_204_17 ?_
              refine zw_push zr_204_18 ?_
              refine zw_push zr_204_19 ?_
              refine zw_C zr_204_22 (Or.inr rfl) zm_140 rfl rfl ⟨Nat.le_of_ble_eq_true rfl, Nat.le_of_ble_eq_true rfl, Nat.le_of_ble_eq_true rfl, rfl, by decide⟩ (by omega) (P := (fun v m' => zW E (d) 204 25 [(2, 69), (0, a0), (0, a1), (0, a2), (0, a3)] (if v.1 = 9 then [] else v :: []) m' Q)) ?_ (fun _ _ h => h)
              generalize hQ1 : (fun v m' => zW E (d) 204 25 [(2, 69), (0, a0), (0, a1), (0, a2), (0, a3)] (if v.1 = 9 then [] else v :: []) m' Q) = Q1
              show zW E (d - 1) 140 0 [(1, a3), (9, 0), (1, 1), (9, 0), (1, 99), (9, 0)] [] m0 Q1
              refine zw_5 zr_140_0 rfl ?_
              refine zw_5 zr_140_1 rfl ?_
              refine zw_39_0 zr_140_2 zr_140_3 ?_ ?_
              · intro h29
                refine zw_push zr_140_17 ?_
                refine zw_R zr_140_18 (by decide) zm_140 (v := (0, 0)) (zRetB (by omega)) ?_
                rw [← hQ1]
                show zW E (d) 204 25 [(2, 69), (0, a0), (0, a1), (0, a2), (0, a3)] [(0, 0)] m0 Q
                refine zw_40_1 zr_204_25 ?_ ?_
                · intro h30
                  refine zw_push zr_204_40 ?_
                  refine zw_R zr_204_42 (by decide) zm_204 (v := (0, (-2))) rfl ?_
                  rw [← hQ]; exact ⟨_, rfl, by omega, by omega, hI0, hF0, by omega, by rw [hG70]; first | exact (if_neg (by omega)).symm | exact (if_pos (by omega)).symm⟩
                · intro h33; omega
              · intro h34
                refine zw_5 zr_140_6 rfl ?_
                refine zw_6 zr_140_7 rfl ?_
                refine zw_39_2 zr_140_9 zr_140_10 ?_ ?_
                · intro h35
                  refine zw_push zr_140_17 ?_
                  refine zw_R zr_140_18 (by decide) zm_140 (v := (0, 0)) (zRetB (by omega)) ?_
                  rw [← hQ1]
                  show zW E (d) 204 25 [(2, 69), (0, a0), (0, a1), (0, a2), (0, a3)] [(0, 0)] m0 Q
                  refine zw_40_1 zr_204_25 ?_ ?_
                  · intro h36
                    refine zw_push zr_204_40 ?_
                    refine zw_R zr_204_42 (by decide) zm_204 (v := (0, (-2))) rfl ?_
                    rw [← hQ]; exact ⟨_, rfl, by omega, by omega, hI0, hF0, by omega, by rw [hG70]; first | exact (if_neg (by omega)).symm | exact (if_pos (by omega)).symm⟩
                  · intro h39; omega
                · intro h40
                  refine zw_push zr_140_13 ?_
                  refine zw_42 zr_140_14 ?_
                  refine zw_R zr_140_18 (by decide) zm_140 (v := (0, 1)) (zRetB (by omega)) ?_
                  rw [← hQ1]
                  show zW E (d) 204 25 [(2, 69), (0, a0), (0, a1), (0, a2), (0, a3)] [(0, 1)] m0 Q
                  refine zw_40_1 zr_204_25 ?_ ?_
                  · intro h41; omega
                  · intro h42
                    refine zw_3 zr_204_28 rfl ?_
                    refine zw_36 zr_204_29 ?_
                    refine zw_push zr_204_30 ?_
                    refine zw_4 zr_204_31 rfl ?_
                    refine zw_36 zr_204_33 ?_
                    refine zw_C zr_204_34 (Or.inr rfl) zm_140 rfl rfl ⟨Nat.le_of_ble_eq_true rfl, Nat.le_of_ble_eq_true rfl, Nat.le_of_ble_eq_true rfl, rfl, by decide⟩ (by omega) (P := (fun v m' => zW E (d) 204 37 [(2, 69), (0, a0), (0, a1), (0, a2), (0, a3)] (if v.1 = 9 then [] else v :: []) m' Q)) ?_ (fun _ _ h => h)
                    generalize hQ1 : (fun v m' => zW E (d) 204 37 [(2, 69), (0, a0), (0, a1), (0, a2), (0, a3)] (if v.1 = 9 then [] else v :: []) m' Q) = Q1
                    show zW E (d - 1) 140 0 [(1, a2), (9, 0), (1, 0), (9, 0), (1, a3), (9, 0)] [] m0 Q1
                    refine zw_5 zr_140_0 rfl ?_
                    refine zw_5 zr_140_1 rfl ?_
                    refine zw_39_0 zr_140_2 zr_140_3 ?_ ?_
                    · intro h43
                      refine zw_push zr_140_17 ?_
                      refine zw_R zr_140_18 (by decide) zm_140 (v := (0, 0)) (zRetB (by omega)) ?_
                      rw [← hQ1]
                      show zW E (d) 204 37 [(2, 69), (0, a0), (0, a1), (0, a2), (0, a3)] [(0, 0)] m0 Q
                      refine zw_40_4 zr_204_37 ?_ ?_
                      · intro h44; omega
                      · intro h45
                        refine zw_push zr_204_40 ?_
                        refine zw_R zr_204_42 (by decide) zm_204 (v := (0, (-2))) rfl ?_
                        rw [← hQ]; exact ⟨_, rfl, by omega, by omega, hI0, hF0, by omega, by rw [hG70]; first | exact (if_neg (by omega)).symm | exact (if_pos (by omega)).symm⟩
                    · intro h48
                      refine zw_5 zr_140_6 rfl ?_
                      refine zw_6 zr_140_7 rfl ?_
                      refine zw_39_2 zr_140_9 zr_140_10 ?_ ?_
                      · intro h49
                        refine zw_push zr_140_17 ?_
                        refine zw_R zr_140_18 (by decide) zm_140 (v := (0, 0)) (zRetB (by omega)) ?_
                        rw [← hQ1]
                        show zW E (d) 204 37 [(2, 69), (0, a0), (0, a1), (0, a2), (0, a3)] [(0, 0)] m0 Q
                        refine zw_40_4 zr_204_37 ?_ ?_
                        · intro h50; omega
                        · intro h51
                          refine zw_push zr_204_40 ?_
                          refine zw_R zr_204_42 (by decide) zm_204 (v := (0, (-2))) rfl ?_
                          rw [← hQ]; exact ⟨_, rfl, by omega, by omega, hI0, hF0, by omega, by rw [hG70]; first | exact (if_neg (by omega)).symm | exact (if_pos (by omega)).symm⟩
                      · intro h54
                        refine zw_push zr_140_13 ?_
                        refine zw_42 zr_140_14 ?_
                        refine zw_R zr_140_18 (by decide) zm_140 (v := (0, 1)) (zRetB (by omega)) ?_
                        rw [← hQ1]
                        show zW E (d) 204 37 [(2, 69), (0, a0), (0, a1), (0, a2), (0, a3)] [(0, 1)] m0 Q
                        refine zw_40_4 zr_204_37 ?_ ?_
                        · intro h55
                          refine zw_7 zr_204_43 rfl ?_
                          refine zw_46r (s := 70) zr_204_44 rfl rfl rfl rfl ?_
                          refine zw_push zr_204_47 ?_
                          refine zw_push zr_204_49 ?_
                          refine zw_3 zr_204_51 rfl ?_
                          refine zw_18 zr_204_52 (by omega) ?_
                          refine zw_16 zr_204_53 (by omega) ?_
                          refine zw_push zr_204_54 ?_
                          refine zw_3 zr_204_55 rfl ?_
                          refine zw_18 zr_204_56 (by omega) ?_
                          refine zw_16 zr_204_57 (by omega) ?_
                          refine zw_3 zr_204_58 rfl ?_
                          refine zw_49 (c := 70) (len := 826) zr_204_59 rfl rfl (by omega) (by omega) ?_
                          intro m56 em56
                          have hIm56 : zInv m56 := by rw [em56]; exact iu_70_moves hI0 (by omega) (by omega)
                          have hFm56 : zFr W_204 m0 m56 := by rw [em56]; exact hF0.any rfl
                          have km56_70_822 : m56 70 822 = g0 := by rw [em56, zUp_ne (by omega)]; exact hg0
                          have fm56_70 : m56 70 = zPt F70 ((((10 + (8 * a0)) + (2 * a1))).toNat) a2 := by rw [em56]; exact (zUp_ff (m := m0)).trans (congrArg (fun q => zPt q ((((10 + (8 * a0)) + (2 * a1))).toNat) a2) hG70)
                          clear em56
                          refine zw_7 zr_204_60 rfl ?_
                          refine zw_46r (s := 70) zr_204_61 rfl rfl rfl rfl ?_
                          refine zw_push zr_204_64 ?_
                          refine zw_push zr_204_66 ?_
                          refine zw_3 zr_204_68 rfl ?_
                          refine zw_18 zr_204_69 (by omega) ?_
                          refine zw_16 zr_204_70 (by omega) ?_
                          refine zw_push zr_204_71 ?_
                          refine zw_3 zr_204_72 rfl ?_
                          refine zw_18 zr_204_73 (by omega) ?_
                          refine zw_16 zr_204_74 (by omega) ?_
                          refine zw_push zr_204_75 ?_
                          refine zw_16 zr_204_76 (by omega) ?_
                          refine zw_4 zr_204_77 rfl ?_
                          refine zw_49 (c := 70) (len := 826) zr_204_79 rfl rfl (by omega) (by omega) ?_
                          intro m57 em57
                          have hIm57 : zInv m57 := by rw [em57]; exact iu_70_moves hIm56 (by omega) (by omega)
                          have hFm57 : zFr W_204 m0 m57 := by rw [em57]; exact hFm56.any rfl
                          have km57_70_822 : m57 70 822 = g0 := by rw [em57, zUp_ne (by omega)]; exact km56_70_822
                          have fm57_70 : m57 70 = zPt (zPt F70 ((((10 + (8 * a0)) + (2 * a1))).toNat) a2) (((((10 + (8 * a0)) + (2 * a1)) + 1)).toNat) a3 := by rw [em57]; exact (zUp_ff (m := m56)).trans (congrArg (fun q => zPt q (((((10 + (8 * a0)) + (2 * a1)) + 1)).toNat) a3) fm56_70)
                          clear em57
                          refine zw_push zr_204_80 ?_
                          refine zw_R zr_204_81 (by decide) zm_204 (v := (0, 1)) rfl ?_
                          rw [← hQ]; exact ⟨_, rfl, by omega, by omega, hIm57, hFm57, by omega, by rw [fm57_70]; first | exact (if_neg (by omega)).symm | exact (if_pos (by omega)).symm⟩
                        · intro h60; omega

abbrev W_130 : List (Nat × Nat) := [(13, 1000)]
set_option maxHeartbeats 8000000 in
theorem th_130 {E : zE} {d : Nat} {m0 : zM} {a0 : Int} {a1 : Int} {F13 : Nat → Int} (hd : 3 ≤ d) (hI0 : zInv m0) (hG13 : m0 13 = F13) (ha0 : (-2147483648) ≤ a0 ∧ a0 ≤ 2147483647) (ha1 : (-2147483648) ≤ a1 ∧ a1 ≤ 2147483647) : zC E d 130 [(2, 0), (0, a0), (0, a1)] m0 (fun v m' => ∃ r : Int, v = (0, r) ∧ (-2) ≤ r ∧ r ≤ 9 ∧ zInv m' ∧ zFr W_130 m0 m' ∧ ((r = -2 ∧ (a0 < 0 ∨ 3 < a0 ∨ a1 < 1 ∨ 9 < a1)) ∨ (0 ≤ a0 ∧ a0 ≤ 3 ∧ 1 ≤ a1 ∧ a1 ≤ 9 ∧ 0 ≤ r ∧ r = F13 a0.toNat)) ∧ (m' 13 = if 0 ≤ r then zPt F13 a0.toNat a1 else F13)) := by
  have hF0 : zFr W_130 m0 m0 := zFr.rfl
  generalize hQ : (fun (v : zV) (m' : zM) => ∃ r : Int, v = (0, r) ∧ (-2) ≤ r ∧ r ≤ 9 ∧ zInv m' ∧ zFr W_130 m0 m' ∧ ((r = -2 ∧ (a0 < 0 ∨ 3 < a0 ∨ a1 < 1 ∨ 9 < a1)) ∨ (0 ≤ a0 ∧ a0 ≤ 3 ∧ 1 ≤ a1 ∧ a1 ≤ 9 ∧ 0 ≤ r ∧ r = F13 a0.toNat)) ∧ (m' 13 = if 0 ≤ r then zPt F13 a0.toNat a1 else F13)) = Q
  show zW E d 130 0 [(2, 0), (0, a0), (0, a1), (9, 0)] [] m0 Q
  refine zw_3 zr_130_0 rfl ?_
  refine zw_C zr_130_1 (Or.inr rfl) zm_128 rfl rfl ⟨Nat.le_of_ble_eq_true rfl, Nat.le_of_ble_eq_true rfl, Nat.le_of_ble_eq_true rfl, rfl, by decide⟩ (by omega) (P := (fun v m' => zW E (d) 130 4 [(2, 0), (0, a0), (0, a1), (9, 0)] (if v.1 = 9 then [] else v :: []) m' Q)) ?_ (fun _ _ h => h)
  generalize hQ1 : (fun v m' => zW E (d) 130 4 [(2, 0), (0, a0), (0, a1), (9, 0)] (if v.1 = 9 then [] else v :: []) m' Q) = Q1
  show zW E (d - 1) 128 0 [(0, a0)] [] m0 Q1
  refine zw_3 zr_128_0 rfl ?_
  refine zw_push zr_128_1 ?_
  refine zw_push zr_128_2 ?_
  refine zw_C zr_128_3 (Or.inr rfl) zm_100 rfl rfl ⟨Nat.le_of_ble_eq_true rfl, Nat.le_of_ble_eq_true rfl, Nat.le_of_ble_eq_true rfl, rfl, by decide⟩ (by omega) (P := (fun v m' => zW E (d - 1) 128 6 [(0, a0)] (if v.1 = 9 then [] else v :: []) m' Q1)) ?_ (fun _ _ h => h)
  generalize hQ2 : (fun v m' => zW E (d - 1) 128 6 [(0, a0)] (if v.1 = 9 then [] else v :: []) m' Q1) = Q2
  show zW E (d - 1 - 1) 100 0 [(0, a0), (0, 0), (0, 3)] [] m0 Q2
  refine zw_3 zr_100_0 rfl ?_
  refine zw_3 zr_100_1 rfl ?_
  refine zw_41_0 zr_100_2 ?_ ?_
  · intro h1
    refine zw_push zr_100_14 ?_
    refine zw_R zr_100_15 (by decide) zm_100 (v := (0, 0)) (zRetB (by omega)) ?_
    rw [← hQ2]
    show zW E (d - 1) 128 6 [(0, a0)] [(0, 0)] m0 Q1
    refine zw_R zr_128_6 (by decide) zm_128 (v := (0, 0)) (zRetB (by omega)) ?_
    rw [← hQ1]
    show zW E (d) 130 4 [(2, 0), (0, a0), (0, a1), (9, 0)] [(0, 0)] m0 Q
    refine zw_40_1 zr_130_4 ?_ ?_
    · intro h2
      refine zw_push zr_130_17 ?_
      refine zw_R zr_130_19 (by decide) zm_130 (v := (0, (-2))) rfl ?_
      rw [← hQ]; exact ⟨_, rfl, by omega, by omega, hI0, hF0, by omega, by rw [hG13]; first | exact (if_neg (by omega)).symm | exact (if_pos (by omega)).symm⟩
    · intro h5; omega
  · intro h6
    refine zw_3 zr_100_5 rfl ?_
    refine zw_3 zr_100_6 rfl ?_
    refine zw_41_2 zr_100_7 ?_ ?_
    · intro h7
      refine zw_push zr_100_14 ?_
      refine zw_R zr_100_15 (by decide) zm_100 (v := (0, 0)) (zRetB (by omega)) ?_
      rw [← hQ2]
      show zW E (d - 1) 128 6 [(0, a0)] [(0, 0)] m0 Q1
      refine zw_R zr_128_6 (by decide) zm_128 (v := (0, 0)) (zRetB (by omega)) ?_
      rw [← hQ1]
      show zW E (d) 130 4 [(2, 0), (0, a0), (0, a1), (9, 0)] [(0, 0)] m0 Q
      refine zw_40_1 zr_130_4 ?_ ?_
      · intro h8
        refine zw_push zr_130_17 ?_
        refine zw_R zr_130_19 (by decide) zm_130 (v := (0, (-2))) rfl ?_
        rw [← hQ]; exact ⟨_, rfl, by omega, by omega, hI0, hF0, by omega, by rw [hG13]; first | exact (if_neg (by omega)).symm | exact (if_pos (by omega)).symm⟩
      · intro h11; omega
    · intro h12
      refine zw_push zr_100_10 ?_
      refine zw_42 zr_100_11 ?_
      refine zw_R zr_100_15 (by decide) zm_100 (v := (0, 1)) (zRetB (by omega)) ?_
      rw [← hQ2]
      show zW E (d - 1) 128 6 [(0, a0)] [(0, 1)] m0 Q1
      refine zw_R zr_128_6 (by decide) zm_128 (v := (0, 1)) (zRetB (by omega)) ?_
      rw [← hQ1]
      show zW E (d) 130 4 [(2, 0), (0, a0), (0, a1), (9, 0)] [(0, 1)] m0 Q
      refine zw_40_1 zr_130_4 ?_ ?_
      · intro h13; omega
      · intro h14
        refine zw_3 zr_130_7 rfl ?_
        refine zw_push zr_130_8 ?_
        refine zw_push zr_130_9 ?_
        refine zw_C zr_130_11 (Or.inr rfl) zm_100 rfl rfl ⟨Nat.le_of_ble_eq_true rfl, Nat.le_of_ble_eq_true rfl, Nat.le_of_ble_eq_true rfl, rfl, by decide⟩ (by omega) (P := (fun v m' => zW E (d) 130 14 [(2, 0), (0, a0), (0, a1), (9, 0)] (if v.1 = 9 then [] else v :: []) m' Q)) ?_ (fun _ _ h => h)
        generalize hQ1 : (fun v m' => zW E (d) 130 14 [(2, 0), (0, a0), (0, a1), (9, 0)] (if v.1 = 9 then [] else v :: []) m' Q) = Q1
        show zW E (d - 1) 100 0 [(0, a1), (0, 1), (0, 9)] [] m0 Q1
        refine zw_3 zr_100_0 rfl ?_
        refine zw_3 zr_100_1 rfl ?_
        refine zw_41_0 zr_100_2 ?_ ?_
        · intro h15
          refine zw_push zr_100_14 ?_
          refine zw_R zr_100_15 (by decide) zm_100 (v := (0, 0)) (zRetB (by omega)) ?_
          rw [← hQ1]
          show zW E (d) 130 14 [(2, 0), (0, a0), (0, a1), (9, 0)] [(0, 0)] m0 Q
          refine zw_40_4 zr_130_14 ?_ ?_
          · intro h16; omega
          · intro h17
            refine zw_push zr_130_17 ?_
            refine zw_R zr_130_19 (by decide) zm_130 (v := (0, (-2))) rfl ?_
            rw [← hQ]; exact ⟨_, rfl, by omega, by omega, hI0, hF0, by omega, by rw [hG13]; first | exact (if_neg (by omega)).symm | exact (if_pos (by omega)).symm⟩
        · intro h20
          refine zw_3 zr_100_5 rfl ?_
          refine zw_3 zr_100_6 rfl ?_
          refine zw_41_2 zr_100_7 ?_ ?_
          · intro h21
            refine zw_push zr_100_14 ?_
            refine zw_R zr_100_15 (by decide) zm_100 (v := (0, 0)) (zRetB (by omega)) ?_
            rw [← hQ1]
            show zW E (d) 130 14 [(2, 0), (0, a0), (0, a1), (9, 0)] [(0, 0)] m0 Q
            refine zw_40_4 zr_130_14 ?_ ?_
            · intro h22; omega
            · intro h23
              refine zw_push zr_130_17 ?_
              refine zw_R zr_130_19 (by decide) zm_130 (v := (0, (-2))) rfl ?_
              rw [← hQ]; exact ⟨_, rfl, by omega, by omega, hI0, hF0, by omega, by rw [hG13]; first | exact (if_neg (by omega)).symm | exact (if_pos (by omega)).symm⟩
          · intro h26
            refine zw_push zr_100_10 ?_
            refine zw_42 zr_100_11 ?_
            refine zw_R zr_100_15 (by decide) zm_100 (v := (0, 1)) (zRetB (by omega)) ?_
            rw [← hQ1]
            show zW E (d) 130 14 [(2, 0), (0, a0), (0, a1), (9, 0)] [(0, 1)] m0 Q
            refine zw_40_4 zr_130_14 ?_ ?_
            · intro h27
              refine zw_7 zr_130_20 rfl ?_
              refine zw_46r (s := 1) zr_130_21 rfl rfl rfl rfl ?_
              refine zw_46r (s := 13) zr_130_24 rfl rfl rfl rfl ?_
              refine zw_3 zr_130_27 rfl ?_
              refine zw_48 (c := 13) (len := 4) zr_130_28 rfl rfl (by omega) (by omega) ?_
              intro x28 ex28
              have bx28 := ib_13 hI0 (k := (a0).toNat) (by omega)
              rw [← ex28] at bx28
              have qx28 : x28 = F13 (a0).toNat := by rw [← hG13]; exact ex28
              clear ex28
              refine zw_9 (L' := [(2, 0), (0, a0), (0, a1), (0, x28)]) zr_130_29 (Nat.le_of_ble_eq_true rfl) rfl ?_
              refine zw_7 zr_130_30 rfl ?_
              refine zw_46r (s := 1) zr_130_31 rfl rfl rfl rfl ?_
              refine zw_46r (s := 13) zr_130_34 rfl rfl rfl rfl ?_
              refine zw_3 zr_130_37 rfl ?_
              refine zw_3 zr_130_38 rfl ?_
              refine zw_49 (c := 13) (len := 4) zr_130_39 rfl rfl (by omega) (by omega) ?_
              intro m29 em29
              have hIm29 : zInv m29 := by rw [em29]; exact iu_13 hI0 (by omega)
              have hFm29 : zFr W_130 m0 m29 := by rw [em29]; exact hF0.any rfl
              have fm29_13 : m29 13 = zPt F13 ((a0).toNat) a1 := by rw [em29]; exact (zUp_ff (m := m0)).trans (congrArg (fun q => zPt q ((a0).toNat) a1) hG13)
              clear em29
              refine zw_3 zr_130_40 rfl ?_
              refine zw_R zr_130_41 (by decide) zm_130 (v := (0, x28)) rfl ?_
              rw [← hQ]; exact ⟨_, rfl, by omega, by omega, hIm29, hFm29, by omega, by rw [fm29_13]; first | exact (if_neg (by omega)).symm | exact (if_pos (by omega)).symm⟩
            · intro h32; omega

abbrev W_205 : List (Nat × Nat) := [(70, 1000)]
set_option maxHeartbeats 8000000 in
theorem th_205 {E : zE} {d : Nat} {m0 : zM} {a0 : Int} {a1 : Int} {F70 : Nat → Int} (hd : 3 ≤ d) (hI0 : zInv m0) (hG70 : m0 70 = F70) (ha0 : (-2147483648) ≤ a0 ∧ a0 ≤ 2147483647) (ha1 : (-2147483648) ≤ a1 ∧ a1 ≤ 2147483647) : zC E d 205 [(2, 69), (0, a0), (0, a1)] m0 (fun v m' => ∃ r : Int, v = (0, r) ∧ (-2) ≤ r ∧ r ≤ 9 ∧ zInv m' ∧ zFr W_205 m0 m' ∧ ((r = -2 ∧ (a0 < 0 ∨ 3 < a0 ∨ a1 < 1 ∨ 9 < a1)) ∨ (0 ≤ a0 ∧ a0 ≤ 3 ∧ 1 ≤ a1 ∧ a1 ≤ 9 ∧ 0 ≤ r ∧ r = F70 (818 + a0).toNat)) ∧ (m' 70 = if 0 ≤ r then zPt F70 (818 + a0).toNat a1 else F70)) := by
  have hF0 : zFr W_205 m0 m0 := zFr.rfl
  generalize hQ : (fun (v : zV) (m' : zM) => ∃ r : Int, v = (0, r) ∧ (-2) ≤ r ∧ r ≤ 9 ∧ zInv m' ∧ zFr W_205 m0 m' ∧ ((r = -2 ∧ (a0 < 0 ∨ 3 < a0 ∨ a1 < 1 ∨ 9 < a1)) ∨ (0 ≤ a0 ∧ a0 ≤ 3 ∧ 1 ≤ a1 ∧ a1 ≤ 9 ∧ 0 ≤ r ∧ r = F70 (818 + a0).toNat)) ∧ (m' 70 = if 0 ≤ r then zPt F70 (818 + a0).toNat a1 else F70)) = Q
  show zW E d 205 0 [(2, 69), (0, a0), (0, a1), (9, 0)] [] m0 Q
  refine zw_3 zr_205_0 rfl ?_
  refine zw_C zr_205_1 (Or.inr rfl) zm_148 rfl rfl ⟨Nat.le_of_ble_eq_true rfl, Nat.le_of_ble_eq_true rfl, Nat.le_of_ble_eq_true rfl, rfl, by decide⟩ (by omega) (P := (fun v m' => zW E (d) 205 4 [(2, 69), (0, a0), (0, a1), (9, 0)] (if v.1 = 9 then [] else v :: []) m' Q)) ?_ (fun _ _ h => h)
  generalize hQ1 : (fun v m' => zW E (d) 205 4 [(2, 69), (0, a0), (0, a1), (9, 0)] (if v.1 = 9 then [] else v :: []) m' Q) = Q1
  show zW E (d - 1) 148 0 [(0, a0)] [] m0 Q1
  refine zw_3 zr_148_0 rfl ?_
  refine zw_36 zr_148_1 ?_
  refine zw_push zr_148_2 ?_
  refine zw_push zr_148_3 ?_
  refine zw_C zr_148_6 (Or.inr rfl) zm_140 rfl rfl ⟨Nat.le_of_ble_eq_true rfl, Nat.le_of_ble_eq_true rfl, Nat.le_of_ble_eq_true rfl, rfl, by decide⟩ (by omega) (P := (fun v m' => zW E (d - 1) 148 9 [(0, a0)] (if v.1 = 9 then [] else v :: []) m' Q1)) ?_ (fun _ _ h => h)
  generalize hQ2 : (fun v m' => zW E (d - 1) 148 9 [(0, a0)] (if v.1 = 9 then [] else v :: []) m' Q1) = Q2
  show zW E (d - 1 - 1) 140 0 [(1, a0), (9, 0), (1, 0), (9, 0), (1, 3), (9, 0)] [] m0 Q2
  refine zw_5 zr_140_0 rfl ?_
  refine zw_5 zr_140_1 rfl ?_
  refine zw_39_0 zr_140_2 zr_140_3 ?_ ?_
  · intro h1
    refine zw_push zr_140_17 ?_
    refine zw_R zr_140_18 (by decide) zm_140 (v := (0, 0)) (zRetB (by omega)) ?_
    rw [← hQ2]
    show zW E (d - 1) 148 9 [(0, a0)] [(0, 0)] m0 Q1
    refine zw_R zr_148_9 (by decide) zm_148 (v := (0, 0)) (zRetB (by omega)) ?_
    rw [← hQ1]
    show zW E (d) 205 4 [(2, 69), (0, a0), (0, a1), (9, 0)] [(0, 0)] m0 Q
    refine zw_40_1 zr_205_4 ?_ ?_
    · intro h2
      refine zw_push zr_205_19 ?_
      refine zw_R zr_205_21 (by decide) zm_205 (v := (0, (-2))) rfl ?_
      rw [← hQ]; exact ⟨_, rfl, by omega, by omega, hI0, hF0, by omega, by rw [hG70]; first | exact (if_neg (by omega)).symm | exact (if_pos (by omega)).symm⟩
    · intro h5; omega
  · intro h6
    refine zw_5 zr_140_6 rfl ?_
    refine zw_6 zr_140_7 rfl ?_
    refine zw_39_2 zr_140_9 zr_140_10 ?_ ?_
    · intro h7
      refine zw_push zr_140_17 ?_
      refine zw_R zr_140_18 (by decide) zm_140 (v := (0, 0)) (zRetB (by omega)) ?_
      rw [← hQ2]
      show zW E (d - 1) 148 9 [(0, a0)] [(0, 0)] m0 Q1
      refine zw_R zr_148_9 (by decide) zm_148 (v := (0, 0)) (zRetB (by omega)) ?_
      rw [← hQ1]
      show zW E (d) 205 4 [(2, 69), (0, a0), (0, a1), (9, 0)] [(0, 0)] m0 Q
      refine zw_40_1 zr_205_4 ?_ ?_
      · intro h8
        refine zw_push zr_205_19 ?_
        refine zw_R zr_205_21 (by decide) zm_205 (v := (0, (-2))) rfl ?_
        rw [← hQ]; exact ⟨_, rfl, by omega, by omega, hI0, hF0, by omega, by rw [hG70]; first | exact (if_neg (by omega)).symm | exact (if_pos (by omega)).symm⟩
      · intro h11; omega
    · intro h12
      refine zw_push zr_140_13 ?_
      refine zw_42 zr_140_14 ?_
      refine zw_R zr_140_18 (by decide) zm_140 (v := (0, 1)) (zRetB (by omega)) ?_
      rw [← hQ2]
      show zW E (d - 1) 148 9 [(0, a0)] [(0, 1)] m0 Q1
      refine zw_R zr_148_9 (by decide) zm_148 (v := (0, 1)) (zRetB (by omega)) ?_
      rw [← hQ1]
      show zW E (d) 205 4 [(2, 69), (0, a0), (0, a1), (9, 0)] [(0, 1)] m0 Q
      refine zw_40_1 zr_205_4 ?_ ?_
      · intro h13; omega
      · intro h14
        refine zw_3 zr_205_7 rfl ?_
        refine zw_36 zr_205_8 ?_
        refine zw_push zr_205_9 ?_
        refine zw_push zr_205_10 ?_
        refine zw_C zr_205_13 (Or.inr rfl) zm_140 rfl rfl ⟨Nat.le_of_ble_eq_true rfl, Nat.le_of_ble_eq_true rfl, Nat.le_of_ble_eq_true rfl, rfl, by decide⟩ (by omega) (P := (fun v m' => zW E (d) 205 16 [(2, 69), (0, a0), (0, a1), (9, 0)] (if v.1 = 9 then [] else v :: []) m' Q)) ?_ (fun _ _ h => h)
        generalize hQ1 : (fun v m' => zW E (d) 205 16 [(2, 69), (0, a0), (0, a1), (9, 0)] (if v.1 = 9 then [] else v :: []) m' Q) = Q1
        show zW E (d - 1) 140 0 [(1, a1), (9, 0), (1, 1), (9, 0), (1, 9), (9, 0)] [] m0 Q1
        refine zw_5 zr_140_0 rfl ?_
        refine zw_5 zr_140_1 rfl ?_
        refine zw_39_0 zr_140_2 zr_140_3 ?_ ?_
        · intro h15
          refine zw_push zr_140_17 ?_
          refine zw_R zr_140_18 (by decide) zm_140 (v := (0, 0)) (zRetB (by omega)) ?_
          rw [← hQ1]
          show zW E (d) 205 16 [(2, 69), (0, a0), (0, a1), (9, 0)] [(0, 0)] m0 Q
          refine zw_40_4 zr_205_16 ?_ ?_
          · intro h16; omega
          · intro h17
            refine zw_push zr_205_19 ?_
            refine zw_R zr_205_21 (by decide) zm_205 (v := (0, (-2))) rfl ?_
            rw [← hQ]; exact ⟨_, rfl, by omega, by omega, hI0, hF0, by omega, by rw [hG70]; first | exact (if_neg (by omega)).symm | exact (if_pos (by omega)).symm⟩
        · intro h20
          refine zw_5 zr_140_6 rfl ?_
          refine zw_6 zr_140_7 rfl ?_
          refine zw_39_2 zr_140_9 zr_140_10 ?_ ?_
          · intro h21
            refine zw_push zr_140_17 ?_
            refine zw_R zr_140_18 (by decide) zm_140 (v := (0, 0)) (zRetB (by omega)) ?_
            rw [← hQ1]
            show zW E (d) 205 16 [(2, 69), (0, a0), (0, a1), (9, 0)] [(0, 0)] m0 Q
            refine zw_40_4 zr_205_16 ?_ ?_
            · intro h22; omega
            · intro h23
              refine zw_push zr_205_19 ?_
              refine zw_R zr_205_21 (by decide) zm_205 (v := (0, (-2))) rfl ?_
              rw [← hQ]; exact ⟨_, rfl, by omega, by omega, hI0, hF0, by omega, by rw [hG70]; first | exact (if_neg (by omega)).symm | exact (if_pos (by omega)).symm⟩
          · intro h26
            refine zw_push zr_140_13 ?_
            refine zw_42 zr_140_14 ?_
            refine zw_R zr_140_18 (by decide) zm_140 (v := (0, 1)) (zRetB (by omega)) ?_
            rw [← hQ1]
            show zW E (d) 205 16 [(2, 69), (0, a0), (0, a1), (9, 0)] [(0, 1)] m0 Q
            refine zw_40_4 zr_205_16 ?_ ?_
            · intro h27
              refine zw_7 zr_205_22 rfl ?_
              refine zw_46r (s := 70) zr_205_23 rfl rfl rfl rfl ?_
              refine zw_push zr_205_26 ?_
              refine zw_3 zr_205_29 rfl ?_
              refine zw_16 zr_205_30 (by omega) ?_
              refine zw_48 (c := 70) (len := 826) zr_205_31 rfl rfl (by omega) (by omega) ?_
              intro x28 ex28
              have bx28 := ib_70_weight hI0 (k := ((818 + a0)).toNat) (by omega)
              rw [← ex28] at bx28
              have qx28 : x28 = F70 ((818 + a0)).toNat := by rw [← hG70]; exact ex28
              clear ex28
              refine zw_9 (L' := [(2, 69), (0, a0), (0, a1), (0, x28)]) zr_205_32 (Nat.le_of_ble_eq_true rfl) rfl ?_
              refine zw_7 zr_205_33 rfl ?_
              refine zw_46r (s := 70) zr_205_34 rfl rfl rfl rfl ?_
              refine zw_push zr_205_37 ?_
              refine zw_3 zr_205_40 rfl ?_
              refine zw_16 zr_205_41 (by omega) ?_
              refine zw_3 zr_205_42 rfl ?_
              refine zw_49 (c := 70) (len := 826) zr_205_43 rfl rfl (by omega) (by omega) ?_
              intro m29 em29
              have hIm29 : zInv m29 := by rw [em29]; exact iu_70_weight hI0 (by omega) (by omega)
              have hFm29 : zFr W_205 m0 m29 := by rw [em29]; exact hF0.any rfl
              have fm29_70 : m29 70 = zPt F70 (((818 + a0)).toNat) a1 := by rw [em29]; exact (zUp_ff (m := m0)).trans (congrArg (fun q => zPt q (((818 + a0)).toNat) a1) hG70)
              clear em29
              refine zw_3 zr_205_44 rfl ?_
              refine zw_R zr_205_45 (by decide) zm_205 (v := (0, x28)) rfl ?_
              rw [← hQ]; exact ⟨_, rfl, by omega, by omega, hIm29, hFm29, by omega, by rw [fm29_70]; first | exact (if_neg (by omega)).symm | exact (if_pos (by omega)).symm⟩
            · intro h32; omega

set_option maxHeartbeats 8000000 in
theorem th_60 {E : zE} {d : Nat} {m0 : zM} {a0 : Int} (hd : 1 ≤ d) (hI0 : zInv m0) (ha0 : 0 ≤ a0 ∧ a0 ≤ 9) : zC E d 60 [(2, 1), (0, a0)] m0 (fun v m' => ∃ r : Int, v = (0, r) ∧ (-2147483648) ≤ r ∧ r ≤ 2147483647 ∧ m0 = m') := by
  generalize hQ : (fun (v : zV) (m' : zM) => ∃ r : Int, v = (0, r) ∧ (-2147483648) ≤ r ∧ r ≤ 2147483647 ∧ m0 = m') = Q
  show zW E d 60 0 [(2, 1), (0, a0), (9, 0), (9, 0)] [] m0 Q
  refine zw_push zr_60_0 ?_
  refine zw_9 (L' := [(2, 1), (0, a0), (0, 0), (9, 0)]) zr_60_1 (Nat.le_of_ble_eq_true rfl) rfl ?_
  refine zw_push zr_60_2 ?_
  refine zw_9 (L' := [(2, 1), (0, a0), (0, 0), (0, 0)]) zr_60_3 (Nat.le_of_ble_eq_true rfl) rfl ?_
  have lp4_3 : ∀ (nlp4_3 : Nat) (i1 i2 : Int), (-2147483648) ≤ i1 → i1 ≤ 2147483647 → 0 ≤ i2 → i2 ≤ 4 → (4 - i2).toNat < nlp4_3 → zW E (d) 60 4 [(2, 1), (0, a0), (0, i1), (0, i2)] [] m0 Q := by
    intro nlp4_3
    induction nlp4_3 with
    | zero =>
      intros
      exact absurd (by assumption : _ < 0) (Nat.not_lt_zero _)
    | succ nlp4_3 ihlp4_3 =>
      intro i1 i2 li1 ui1 li2 ui2 hmlp4_3
      refine zw_3 zr_60_4 rfl ?_
      refine zw_push zr_60_5 ?_
      refine zw_41_3 zr_60_6 ?_ ?_
      · intro h5
        refine zw_3 zr_60_28 rfl ?_
        refine zw_R zr_60_29 (by decide) zm_60 (v := (0, i1)) rfl ?_
        rw [← hQ]; exact ⟨_, rfl, by omega, by omega, rfl⟩
      · intro h6
        refine zw_3 zr_60_9 rfl ?_
        refine zw_7 zr_60_10 rfl ?_
        refine zw_46r (s := 4) zr_60_11 rfl rfl rfl rfl ?_
        refine zw_3 zr_60_14 rfl ?_
        refine zw_push zr_60_15 ?_
        refine zw_18 zr_60_16 (by omega) ?_
        refine zw_3 zr_60_17 rfl ?_
        refine zw_16 zr_60_18 (by omega) ?_
        refine zw_48 (c := 4) (len := 40) zr_60_19 rfl rfl (by omega) (by omega) ?_
        intro x7 ex7
        have bx7 := ib_4 hI0 (k := (((a0 * 4) + i2)).toNat) (by omega)
        rw [← ex7] at bx7
        clear ex7
        refine zw_16h zr_60_20 ?_
        intro x8 hx8a hx8b
        refine zw_9 (L' := [(2, 1), (0, a0), (0, x8), (0, i2)]) zr_60_21 (Nat.le_of_ble_eq_true rfl) rfl ?_
        refine zw_15 (c := 1) (L' := [(2, 1), (0, a0), (0, x8), (0, (i2 + 1))]) zr_60_22 rfl (by decide) (by omega) rfl ?_
        refine zw_42 zr_60_25 ?_
        exact zw_less (L := [(2, 1), (0, a0), (0, x8), (0, (i2 + 1))]) ⟨Or.inr rfl, Or.inr rfl, Or.inr rfl, Or.inr rfl, trivial⟩ (ihlp4_3 (x8) ((i2 + 1))  (by omega) (by omega) (by omega) (by omega)  (by omega))
  exact lp4_3 _ (0) (0)  (by omega) (by omega) (by omega) (by omega)  (Nat.lt_succ_self _)

abbrev W_131 : List (Nat × Nat) := [(42, 0), (42, 1)]
set_option maxHeartbeats 8000000 in
theorem th_131 {E : zE} {d : Nat} {m0 : zM} {a0 : Int} (hd : 3 ≤ d) (hI0 : zInv m0) (ha0 : 0 ≤ a0 ∧ a0 ≤ 9) : zC E d 131 [(2, 0), (0, a0)] m0 (fun v m' => v = (9, 0) ∧ zInv m' ∧ zFr W_131 m0 m') := by
  have hF0 : zFr W_131 m0 m0 := zFr.rfl
  generalize hQ : (fun (v : zV) (m' : zM) => v = (9, 0) ∧ zInv m' ∧ zFr W_131 m0 m') = Q
  show zW E d 131 0 [(2, 0), (0, a0), (9, 0), (9, 0), (9, 0), (9, 0), (9, 0), (9, 0), (9, 0), (9, 0)] [] m0 Q
  refine zw_push zr_131_0 ?_
  refine zw_13 (L' := [(2, 0), (0, a0), (1, 0), (9, 0), (9, 0), (9, 0), (9, 0), (9, 0), (9, 0), (9, 0)]) zr_131_1 (Nat.le_of_ble_eq_true rfl) rfl ?_
  refine zw_push zr_131_2 ?_
  refine zw_14 (L' := [(2, 0), (0, a0), (1, 0), (9, 0), (1, 1), (9, 0), (9, 0), (9, 0), (9, 0), (9, 0)]) zr_131_3 (Nat.le_of_ble_eq_true rfl) rfl ?_
  refine zw_push zr_131_5 ?_
  refine zw_10 (L' := [(2, 0), (0, a0), (1, 0), (9, 0), (1, 1), (9, 0), (0, 0), (9, 0), (9, 0), (9, 0)]) zr_131_6 (Nat.le_of_ble_eq_true rfl) rfl ?_
  refine zw_push zr_131_8 ?_
  refine zw_10 (L' := [(2, 0), (0, a0), (1, 0), (9, 0), (1, 1), (9, 0), (0, 0), (0, 0), (9, 0), (9, 0)]) zr_131_9 (Nat.le_of_ble_eq_true rfl) rfl ?_
  have lp11_6 : ∀ (nlp11_6 : Nat) (i1 i2 i3 i4 : Int) (m5 : zM), zInv m5 → zFr W_131 m0 m5 → (-9223372036854775808) ≤ i1 → i1 ≤ 9223372036854775807 → (-9223372036854775808) ≤ i2 → i2 ≤ 9223372036854775807 → (-2147483648) ≤ i3 → i3 ≤ 2147483647 → 0 ≤ i4 → i4 ≤ 4 → (4 - i4).toNat < nlp11_6 → zW E (d) 131 11 [(2, 0), (0, a0), (1, i1), (9, 0), (1, i2), (9, 0), (0, i3), (0, i4), (9, 0), (9, 0)] [] m5 Q := by
    intro nlp11_6
    induction nlp11_6 with
    | zero =>
      intros
      exact absurd (by assumption : _ < 0) (Nat.not_lt_zero _)
    | succ nlp11_6 ihlp11_6 =>
      intro i1 i2 i3 i4 m5 hIm5 hFm5 li1 ui1 li2 ui2 li3 ui3 li4 ui4 hmlp11_6
      refine zw_4 zr_131_11 rfl ?_
      refine zw_push zr_131_13 ?_
      refine zw_41_3 zr_131_14 ?_ ?_
      · intro h8
        refine zw_7 zr_131_108 rfl ?_
        refine zw_46r (s := 42) zr_131_109 rfl rfl rfl rfl ?_
        refine zw_5 zr_131_112 rfl ?_
        refine zw_6 zr_131_113 rfl ?_
        refine zw_4 zr_131_115 rfl ?_
        refine zw_36 zr_131_117 ?_
        refine zw_29h zr_131_118 ?_
        intro x9 hx9a hx9b
        refine zw_C zr_131_119 (Or.inl rfl) zm_38 rfl rfl ⟨Nat.le_of_ble_eq_true rfl, Nat.le_of_ble_eq_true rfl, Nat.le_of_ble_eq_true rfl, rfl, by decide⟩ (by omega) (th_38 (d := d - 1) (by omega) hIm5 (a0 := i1) (a1 := x9)      (by omega) (by omega) ) ?_
        rintro _ m10 ⟨rfl, hIm10, gm10⟩
        have hFm10 : zFr W_131 m0 m10 := hFm5.trans gm10 rfl
        show zW E (d) 131 122 [(2, 0), (0, a0), (1, i1), (9, 0), (1, i2), (9, 0), (0, i3), (0, i4), (9, 0), (9, 0)] [] m10 Q
        refine zw_R zr_131_122 (by decide) zm_131 (v := (9, 0)) rfl ?_
        rw [← hQ]; exact ⟨rfl, hIm10, hFm10⟩
      · intro h11
        refine zw_7 zr_131_17 rfl ?_
        refine zw_46r (s := 1) zr_131_18 rfl rfl rfl rfl ?_
        refine zw_46r (s := 3) zr_131_21 rfl rfl rfl rfl ?_
        refine zw_3 zr_131_24 rfl ?_
        refine zw_push zr_131_25 ?_
        refine zw_18 zr_131_26 (by omega) ?_
        refine zw_4 zr_131_27 rfl ?_
        refine zw_16 zr_131_29 (by omega) ?_
        refine zw_48 (c := 3) (len := 40) zr_131_30 rfl rfl (by omega) (by omega) ?_
        intro x12 ex12
        have bx12 := ib_3 hIm5 (k := (((a0 * 4) + i4)).toNat) (by omega)
        rw [← ex12] at bx12
        clear ex12
        refine zw_10 (L' := [(2, 0), (0, a0), (1, i1), (9, 0), (1, i2), (9, 0), (0, i3), (0, i4), (0, x12), (9, 0)]) zr_131_31 (Nat.le_of_ble_eq_true rfl) rfl ?_
        refine zw_7 zr_131_33 rfl ?_
        refine zw_46r (s := 1) zr_131_34 rfl rfl rfl rfl ?_
        refine zw_46r (s := 4) zr_131_37 rfl rfl rfl rfl ?_
        refine zw_3 zr_131_40 rfl ?_
        refine zw_push zr_131_41 ?_
        refine zw_18 zr_131_42 (by omega) ?_
        refine zw_4 zr_131_43 rfl ?_
        refine zw_16 zr_131_45 (by omega) ?_
        refine zw_48 (c := 4) (len := 40) zr_131_46 rfl rfl (by omega) (by omega) ?_
        intro x13 ex13
        have bx13 := ib_4 hIm5 (k := (((a0 * 4) + i4)).toNat) (by omega)
        rw [← ex13] at bx13
        clear ex13
        refine zw_10 (L' := [(2, 0), (0, a0), (1, i1), (9, 0), (1, i2), (9, 0), (0, i3), (0, i4), (0, x12), (0, x13)]) zr_131_47 (Nat.le_of_ble_eq_true rfl) rfl ?_
        refine zw_4 zr_131_49 rfl ?_
        refine zw_40_5 zr_131_51 ?_ ?_
        · intro h14
          refine zw_15 (c := 1) (L' := [(2, 0), (0, a0), (1, i1), (9, 0), (1, i2), (9, 0), (0, i3), (0, (i4 + 1)), (0, x12), (0, x13)]) zr_131_102 rfl (by decide) (by omega) rfl ?_
          refine zw_42 zr_131_105 ?_
          exact zw_less (L := [(2, 0), (0, a0), (1, i1), (9, 0), (1, i2), (9, 0), (0, i3), (0, (i4 + 1)), (9, 0), (9, 0)]) ⟨Or.inr rfl, Or.inr rfl, Or.inr rfl, Or.inl rfl, Or.inr rfl, Or.inl rfl, Or.inr rfl, Or.inr rfl, Or.inl rfl, Or.inl rfl, trivial⟩ (ihlp11_6 (i1) (i2) (i3) ((i4 + 1)) m5 hIm5 hFm5   (by omega) (by omega) (by omega) (by omega) (by omega) (by omega) (by omega) (by omega)  (by omega))
        · intro h15
          refine zw_5 zr_131_54 rfl ?_
          refine zw_4 zr_131_55 rfl ?_
          refine zw_36 zr_131_57 ?_
          refine zw_29h zr_131_58 ?_
          intro x16 hx16a hx16b
          refine zw_6 zr_131_59 rfl ?_
          refine zw_7 zr_131_61 rfl ?_
          refine zw_46r (s := 1) zr_131_62 rfl rfl rfl rfl ?_
          refine zw_46r (s := 13) zr_131_65 rfl rfl rfl rfl ?_
          refine zw_4 zr_131_68 rfl ?_
          refine zw_48 (c := 13) (len := 4) zr_131_70 rfl rfl (by omega) (by omega) ?_
          intro x17 ex17
          have bx17 := ib_13 hIm5 (k := (i4).toNat) (by omega)
          rw [← ex17] at bx17
          refine zw_36 zr_131_71 ?_
          refine zw_29h zr_131_72 ?_
          intro x18 hx18a hx18b
          refine zw_4 zr_131_73 rfl ?_
          refine zw_36 zr_131_75 ?_
          refine zw_29h zr_131_76 ?_
          intro x19 hx19a hx19b
          refine zw_27h zr_131_77 ?_
          intro x20 hx20a hx20b
          refine zw_13 (L' := [(2, 0), (0, a0), (1, x20), (9, 0), (1, i2), (9, 0), (0, i3), (0, i4), (0, x12), (0, x13)]) zr_131_78 (Nat.le_of_ble_eq_true rfl) rfl ?_
          refine zw_6 zr_131_79 rfl ?_
          refine zw_4 zr_131_81 rfl ?_
          refine zw_36 zr_131_83 ?_
          refine zw_29h zr_131_84 ?_
          intro x21 hx21a hx21b
          refine zw_14 (L' := [(2, 0), (0, a0), (1, x20), (9, 0), (1, x21), (9, 0), (0, i3), (0, i4), (0, x12), (0, x13)]) zr_131_85 (Nat.le_of_ble_eq_true rfl) rfl ?_
          refine zw_4 zr_131_87 rfl ?_
          refine zw_7 zr_131_89 rfl ?_
          refine zw_46r (s := 1) zr_131_90 rfl rfl rfl rfl ?_
          refine zw_46r (s := 13) zr_131_93 rfl rfl rfl rfl ?_
          refine zw_4 zr_131_96 rfl ?_
          refine zw_48k (c := 13) (len := 4) zr_131_98 rfl rfl (by omega) (by omega) rfl ex17.symm ?_
          refine zw_16h zr_131_99 ?_
          intro x22 hx22a hx22b
          refine zw_10 (L' := [(2, 0), (0, a0), (1, x20), (9, 0), (1, x21), (9, 0), (0, x22), (0, i4), (0, x12), (0, x13)]) zr_131_100 (Nat.le_of_ble_eq_true rfl) rfl ?_
          refine zw_15 (c := 1) (L' := [(2, 0), (0, a0), (1, x20), (9, 0), (1, x21), (9, 0), (0, x22), (0, (i4 + 1)), (0, x12), (0, x13)]) zr_131_102 rfl (by decide) (by omega) rfl ?_
          refine zw_42 zr_131_105 ?_
          exact zw_less (L := [(2, 0), (0, a0), (1, x20), (9, 0), (1, x21), (9, 0), (0, x22), (0, (i4 + 1)), (9, 0), (9, 0)]) ⟨Or.inr rfl, Or.inr rfl, Or.inr rfl, Or.inl rfl, Or.inr rfl, Or.inl rfl, Or.inr rfl, Or.inr rfl, Or.inl rfl, Or.inl rfl, trivial⟩ (ihlp11_6 (x20) (x21) (x22) ((i4 + 1)) m5 hIm5 hFm5   (by omega) (by omega) (by omega) (by omega) (by omega) (by omega) (by omega) (by omega)  (by omega))
  exact lp11_6 _ (0) (1) (0) (0) m0 hI0 hF0   (by omega) (by omega) (by omega) (by omega) (by omega) (by omega) (by omega) (by omega)  (Nat.lt_succ_self _)

set_option maxHeartbeats 8000000 in
theorem th_59 {E : zE} {d : Nat} {m0 : zM} {a0 : Int} (hd : 1 ≤ d) (hI0 : zInv m0) (ha0 : 0 ≤ a0 ∧ a0 ≤ 9) : zC E d 59 [(2, 1), (0, a0)] m0 (fun v m' => ∃ r : Int, v = (0, r) ∧ (-2147483648) ≤ r ∧ r ≤ 2147483647 ∧ m0 = m') := by
  generalize hQ : (fun (v : zV) (m' : zM) => ∃ r : Int, v = (0, r) ∧ (-2147483648) ≤ r ∧ r ≤ 2147483647 ∧ m0 = m') = Q
  show zW E d 59 0 [(2, 1), (0, a0), (9, 0), (9, 0)] [] m0 Q
  refine zw_push zr_59_0 ?_
  refine zw_9 (L' := [(2, 1), (0, a0), (0, 0), (9, 0)]) zr_59_1 (Nat.le_of_ble_eq_true rfl) rfl ?_
  refine zw_push zr_59_2 ?_
  refine zw_9 (L' := [(2, 1), (0, a0), (0, 0), (0, 0)]) zr_59_3 (Nat.le_of_ble_eq_true rfl) rfl ?_
  have lp4_3 : ∀ (nlp4_3 : Nat) (i1 i2 : Int), (-2147483648) ≤ i1 → i1 ≤ 2147483647 → 0 ≤ i2 → i2 ≤ 4 → (4 - i2).toNat < nlp4_3 → zW E (d) 59 4 [(2, 1), (0, a0), (0, i1), (0, i2)] [] m0 Q := by
    intro nlp4_3
    induction nlp4_3 with
    | zero =>
      intros
      exact absurd (by assumption : _ < 0) (Nat.not_lt_zero _)
    | succ nlp4_3 ihlp4_3 =>
      intro i1 i2 li1 ui1 li2 ui2 hmlp4_3
      refine zw_3 zr_59_4 rfl ?_
      refine zw_push zr_59_5 ?_
      refine zw_41_3 zr_59_6 ?_ ?_
      · intro h5
        refine zw_3 zr_59_28 rfl ?_
        refine zw_R zr_59_29 (by decide) zm_59 (v := (0, i1)) rfl ?_
        rw [← hQ]; exact ⟨_, rfl, by omega, by omega, rfl⟩
      · intro h6
        refine zw_3 zr_59_9 rfl ?_
        refine zw_7 zr_59_10 rfl ?_
        refine zw_46r (s := 3) zr_59_11 rfl rfl rfl rfl ?_
        refine zw_3 zr_59_14 rfl ?_
        refine zw_push zr_59_15 ?_
        refine zw_18 zr_59_16 (by omega) ?_
        refine zw_3 zr_59_17 rfl ?_
        refine zw_16 zr_59_18 (by omega) ?_
        refine zw_48 (c := 3) (len := 40) zr_59_19 rfl rfl (by omega) (by omega) ?_
        intro x7 ex7
        have bx7 := ib_3 hI0 (k := (((a0 * 4) + i2)).toNat) (by omega)
        rw [← ex7] at bx7
        clear ex7
        refine zw_16h zr_59_20 ?_
        intro x8 hx8a hx8b
        refine zw_9 (L' := [(2, 1), (0, a0), (0, x8), (0, i2)]) zr_59_21 (Nat.le_of_ble_eq_true rfl) rfl ?_
        refine zw_15 (c := 1) (L' := [(2, 1), (0, a0), (0, x8), (0, (i2 + 1))]) zr_59_22 rfl (by decide) (by omega) rfl ?_
        refine zw_42 zr_59_25 ?_
        exact zw_less (L := [(2, 1), (0, a0), (0, x8), (0, (i2 + 1))]) ⟨Or.inr rfl, Or.inr rfl, Or.inr rfl, Or.inr rfl, trivial⟩ (ihlp4_3 (x8) ((i2 + 1))  (by omega) (by omega) (by omega) (by omega)  (by omega))
  exact lp4_3 _ (0) (0)  (by omega) (by omega) (by omega) (by omega)  (Nat.lt_succ_self _)

abbrev W_132 : List (Nat × Nat) := [(42, 0), (42, 1)]
set_option maxHeartbeats 8000000 in
theorem th_132 {E : zE} {d : Nat} {m0 : zM} {a0 : Int} {a1 : Int} (hd : 4 ≤ d) (hI0 : zInv m0) (ha0 : (-2147483648) ≤ a0 ∧ a0 ≤ 2147483647) (ha1 : (-2147483648) ≤ a1 ∧ a1 ≤ 2147483647) : zC E d 132 [(2, 0), (0, a0), (0, a1)] m0 (fun v m' => ∃ r : Int, v = (0, r) ∧ (-3) ≤ r ∧ r ≤ 1 ∧ zInv m' ∧ zFr W_132 m0 m') := by
  have hF0 : zFr W_132 m0 m0 := zFr.rfl
  generalize hQ : (fun (v : zV) (m' : zM) => ∃ r : Int, v = (0, r) ∧ (-3) ≤ r ∧ r ≤ 1 ∧ zInv m' ∧ zFr W_132 m0 m') = Q
  show zW E d 132 0 [(2, 0), (0, a0), (0, a1)] [] m0 Q
  refine zw_7 zr_132_0 rfl ?_
  refine zw_46r (s := 1) zr_132_1 rfl rfl rfl rfl ?_
  refine zw_3 zr_132_4 rfl ?_
  refine zw_C zr_132_5 (Or.inl rfl) zm_49 rfl rfl ⟨Nat.le_of_ble_eq_true rfl, Nat.le_of_ble_eq_true rfl, Nat.le_of_ble_eq_true rfl, rfl, by decide⟩ (by omega) (P := (fun v m' => zW E (d) 132 8 [(2, 0), (0, a0), (0, a1)] (if v.1 = 9 then [] else v :: []) m' Q)) ?_ (fun _ _ h => h)
  generalize hQ1 : (fun v m' => zW E (d) 132 8 [(2, 0), (0, a0), (0, a1)] (if v.1 = 9 then [] else v :: []) m' Q) = Q1
  show zW E (d - 1) 49 0 [(2, 1), (0, a0)] [] m0 Q1
  refine zw_3 zr_49_0 rfl ?_
  refine zw_40_0 zr_49_1 ?_ ?_
  · intro h1
    refine zw_push zr_49_16 ?_
    refine zw_R zr_49_17 (by decide) zm_49 (v := (0, 0)) (zRetB (by omega)) ?_
    rw [← hQ1]
    show zW E (d) 132 8 [(2, 0), (0, a0), (0, a1)] [(0, 0)] m0 Q
    refine zw_40_1 zr_132_8 ?_ ?_
    · intro h2
      refine zw_push zr_132_20 ?_
      refine zw_R zr_132_22 (by decide) zm_132 (v := (0, (-2))) rfl ?_
      rw [← hQ]; exact ⟨_, rfl, by omega, by omega, hI0, hF0⟩
    · intro h3; omega
  · intro h4
    refine zw_3 zr_49_4 rfl ?_
    refine zw_7 zr_49_5 rfl ?_
    obtain ⟨f5, ef5⟩ : ∃ v, m0 1 0 = v := ⟨_, rfl⟩
    have bf5 := ib_1_0 hI0
    rw [ef5] at bf5
    refine zw_46i zr_49_6 ef5 rfl rfl rfl ?_
    refine zw_41_3 zr_49_9 ?_ ?_
    · intro h6
      refine zw_push zr_49_16 ?_
      refine zw_R zr_49_17 (by decide) zm_49 (v := (0, 0)) (zRetB (by omega)) ?_
      rw [← hQ1]
      show zW E (d) 132 8 [(2, 0), (0, a0), (0, a1)] [(0, 0)] m0 Q
      refine zw_40_1 zr_132_8 ?_ ?_
      · intro h7
        refine zw_push zr_132_20 ?_
        refine zw_R zr_132_22 (by decide) zm_132 (v := (0, (-2))) rfl ?_
        rw [← hQ]; exact ⟨_, rfl, by omega, by omega, hI0, hF0⟩
      · intro h8; omega
    · intro h9
      refine zw_push zr_49_12 ?_
      refine zw_42 zr_49_13 ?_
      refine zw_R zr_49_17 (by decide) zm_49 (v := (0, 1)) (zRetB (by omega)) ?_
      rw [← hQ1]
      show zW E (d) 132 8 [(2, 0), (0, a0), (0, a1)] [(0, 1)] m0 Q
      refine zw_40_1 zr_132_8 ?_ ?_
      · intro h10; omega
      · intro h11
        refine zw_3 zr_132_11 rfl ?_
        refine zw_push zr_132_12 ?_
        refine zw_push zr_132_13 ?_
        refine zw_C zr_132_14 (Or.inr rfl) zm_100 rfl rfl ⟨Nat.le_of_ble_eq_true rfl, Nat.le_of_ble_eq_true rfl, Nat.le_of_ble_eq_true rfl, rfl, by decide⟩ (by omega) (P := (fun v m' => zW E (d) 132 17 [(2, 0), (0, a0), (0, a1)] (if v.1 = 9 then [] else v :: []) m' Q)) ?_ (fun _ _ h => h)
        generalize hQ1 : (fun v m' => zW E (d) 132 17 [(2, 0), (0, a0), (0, a1)] (if v.1 = 9 then [] else v :: []) m' Q) = Q1
        show zW E (d - 1) 100 0 [(0, a1), (0, 0), (0, 1)] [] m0 Q1
        refine zw_3 zr_100_0 rfl ?_
        refine zw_3 zr_100_1 rfl ?_
        refine zw_41_0 zr_100_2 ?_ ?_
        · intro h12
          refine zw_push zr_100_14 ?_
          refine zw_R zr_100_15 (by decide) zm_100 (v := (0, 0)) (zRetB (by omega)) ?_
          rw [← hQ1]
          show zW E (d) 132 17 [(2, 0), (0, a0), (0, a1)] [(0, 0)] m0 Q
          refine zw_40_4 zr_132_17 ?_ ?_
          · intro h13; omega
          · intro h14
            refine zw_push zr_132_20 ?_
            refine zw_R zr_132_22 (by decide) zm_132 (v := (0, (-2))) rfl ?_
            rw [← hQ]; exact ⟨_, rfl, by omega, by omega, hI0, hF0⟩
        · intro h15
          refine zw_3 zr_100_5 rfl ?_
          refine zw_3 zr_100_6 rfl ?_
          refine zw_41_2 zr_100_7 ?_ ?_
          · intro h16
            refine zw_push zr_100_14 ?_
            refine zw_R zr_100_15 (by decide) zm_100 (v := (0, 0)) (zRetB (by omega)) ?_
            rw [← hQ1]
            show zW E (d) 132 17 [(2, 0), (0, a0), (0, a1)] [(0, 0)] m0 Q
            refine zw_40_4 zr_132_17 ?_ ?_
            · intro h17; omega
            · intro h18
              refine zw_push zr_132_20 ?_
              refine zw_R zr_132_22 (by decide) zm_132 (v := (0, (-2))) rfl ?_
              rw [← hQ]; exact ⟨_, rfl, by omega, by omega, hI0, hF0⟩
          · intro h19
            refine zw_push zr_100_10 ?_
            refine zw_42 zr_100_11 ?_
            refine zw_R zr_100_15 (by decide) zm_100 (v := (0, 1)) (zRetB (by omega)) ?_
            rw [← hQ1]
            show zW E (d) 132 17 [(2, 0), (0, a0), (0, a1)] [(0, 1)] m0 Q
            refine zw_40_4 zr_132_17 ?_ ?_
            · intro h20
              refine zw_7 zr_132_23 rfl ?_
              refine zw_46r (s := 1) zr_132_24 rfl rfl rfl rfl ?_
              refine zw_3 zr_132_27 rfl ?_
              refine zw_C zr_132_28 (Or.inl rfl) zm_60 rfl rfl ⟨Nat.le_of_ble_eq_true rfl, Nat.le_of_ble_eq_true rfl, Nat.le_of_ble_eq_true rfl, rfl, by decide⟩ (by omega) (th_60 (d := d - 1) (by omega) hI0 (a0 := a0)      (by omega) ) ?_
              rintro _ _ ⟨r21, rfl, hr21a, hr21b, rfl⟩
              show zW E (d) 132 31 [(2, 0), (0, a0), (0, a1)] [(0, r21)] m0 Q
              refine zw_40_4 zr_132_31 ?_ ?_
              · intro h22
                refine zw_3 zr_132_37 rfl ?_
                refine zw_40_4 zr_132_38 ?_ ?_
                · intro h23
                  refine zw_7 zr_132_69 rfl ?_
                  refine zw_3 zr_132_70 rfl ?_
                  refine zw_C zr_132_71 (Or.inl rfl) zm_131 rfl rfl ⟨Nat.le_of_ble_eq_true rfl, Nat.le_of_ble_eq_true rfl, Nat.le_of_ble_eq_true rfl, rfl, by decide⟩ (by omega) (th_131 (d := d - 1) (by omega) hI0 (a0 := a0)      (by omega) ) ?_
                  rintro _ m24 ⟨rfl, hIm24, gm24⟩
                  have hFm24 : zFr W_132 m0 m24 := hF0.trans gm24 rfl
                  have km24_1_0 : m24 1 0 = f5 := (gm24 1 0 rfl).trans ef5
                  show zW E (d) 132 74 [(2, 0), (0, a0), (0, a1)] [] m24 Q
                  refine zw_push zr_132_74 ?_
                  refine zw_R zr_132_75 (by decide) zm_132 (v := (0, 1)) rfl ?_
                  rw [← hQ]; exact ⟨_, rfl, by omega, by omega, hIm24, hFm24⟩
                · intro h25
                  refine zw_7 zr_132_41 rfl ?_
                  refine zw_46r (s := 42) zr_132_42 rfl rfl rfl rfl ?_
                  refine zw_7 zr_132_45 rfl ?_
                  refine zw_46r (s := 1) zr_132_46 rfl rfl rfl rfl ?_
                  refine zw_3 zr_132_49 rfl ?_
                  refine zw_C zr_132_50 (Or.inl rfl) zm_59 rfl rfl ⟨Nat.le_of_ble_eq_true rfl, Nat.le_of_ble_eq_true rfl, Nat.le_of_ble_eq_true rfl, rfl, by decide⟩ (by omega) (th_59 (d := d - 1) (by omega) hI0 (a0 := a0)      (by omega) ) ?_
                  rintro _ _ ⟨r26, rfl, hr26a, hr26b, rfl⟩
                  show zW E (d) 132 53 [(2, 0), (0, a0), (0, a1)] [(0, r26), (2, 42)] m0 Q
                  refine zw_36 zr_132_53 ?_
                  refine zw_7 zr_132_54 rfl ?_
                  refine zw_46r (s := 1) zr_132_55 rfl rfl rfl rfl ?_
                  refine zw_3 zr_132_58 rfl ?_
                  refine zw_C zr_132_59 (Or.inl rfl) zm_60 rfl rfl ⟨Nat.le_of_ble_eq_true rfl, Nat.le_of_ble_eq_true rfl, Nat.le_of_ble_eq_true rfl, rfl, by decide⟩ (by omega) (th_60 (d := d - 1) (by omega) hI0 (a0 := a0)      (by omega) ) ?_
                  rintro _ _ ⟨r27, rfl, hr27a, hr27b, rfl⟩
                  show zW E (d) 132 62 [(2, 0), (0, a0), (0, a1)] [(0, r27), (1, r26), (2, 42)] m0 Q
                  refine zw_36 zr_132_62 ?_
                  refine zw_C zr_132_63 (Or.inl rfl) zm_38 rfl rfl ⟨Nat.le_of_ble_eq_true rfl, Nat.le_of_ble_eq_true rfl, Nat.le_of_ble_eq_true rfl, rfl, by decide⟩ (by omega) (th_38 (d := d - 1) (by omega) hI0 (a0 := r26) (a1 := r27)      (by omega) (by omega) ) ?_
                  rintro _ m28 ⟨rfl, hIm28, gm28⟩
                  have hFm28 : zFr W_132 m0 m28 := hF0.trans gm28 rfl
                  have km28_1_0 : m28 1 0 = f5 := (gm28 1 0 rfl).trans ef5
                  show zW E (d) 132 66 [(2, 0), (0, a0), (0, a1)] [] m28 Q
                  refine zw_42 zr_132_66 ?_
                  refine zw_push zr_132_74 ?_
                  refine zw_R zr_132_75 (by decide) zm_132 (v := (0, 1)) rfl ?_
                  rw [← hQ]; exact ⟨_, rfl, by omega, by omega, hIm28, hFm28⟩
              · intro h29
                refine zw_push zr_132_34 ?_
                refine zw_R zr_132_36 (by decide) zm_132 (v := (0, (-3))) rfl ?_
                rw [← hQ]; exact ⟨_, rfl, by omega, by omega, hI0, hF0⟩
            · intro h30; omega

abbrev W_206 : List (Nat × Nat) := [(69, 3), (69, 4)]
set_option maxHeartbeats 8000000 in
theorem th_206 {E : zE} {d : Nat} {m0 : zM} {a0 : Int} {a1 : Int} (hd : 3 ≤ d) (hI0 : zInv m0) (ha0 : (-2147483648) ≤ a0 ∧ a0 ≤ 2147483647) (ha1 : (-2147483648) ≤ a1 ∧ a1 ≤ 2147483647) : zC E d 206 [(2, 69), (0, a0), (0, a1)] m0 (fun v m' => ∃ r : Int, v = (0, r) ∧ (-3) ≤ r ∧ r ≤ 1 ∧ zInv m' ∧ zFr W_206 m0 m') := by
  have hF0 : zFr W_206 m0 m0 := zFr.rfl
  generalize hQ : (fun (v : zV) (m' : zM) => ∃ r : Int, v = (0, r) ∧ (-3) ≤ r ∧ r ≤ 1 ∧ zInv m' ∧ zFr W_206 m0 m') = Q
  show zW E d 206 0 [(2, 69), (0, a0), (0, a1), (9, 0), (9, 0), (9, 0), (9, 0), (9, 0), (9, 0), (9, 0), (9, 0), (9, 0), (9, 0), (9, 0), (9, 0), (9, 0), (9, 0), (9, 0)] [] m0 Q
  refine zw_7 zr_206_0 rfl ?_
  refine zw_3 zr_206_1 rfl ?_
  refine zw_C zr_206_2 (Or.inl rfl) zm_143 rfl rfl ⟨Nat.le_of_ble_eq_true rfl, Nat.le_of_ble_eq_true rfl, Nat.le_of_ble_eq_true rfl, rfl, by decide⟩ (by omega) (P := (fun v m' => zW E (d) 206 5 [(2, 69), (0, a0), (0, a1), (9, 0), (9, 0), (9, 0), (9, 0), (9, 0), (9, 0), (9, 0), (9, 0), (9, 0), (9, 0), (9, 0), (9, 0), (9, 0), (9, 0), (9, 0)] (if v.1 = 9 then [] else v :: []) m' Q)) ?_ (fun _ _ h => h)
  generalize hQ1 : (fun v m' => zW E (d) 206 5 [(2, 69), (0, a0), (0, a1), (9, 0), (9, 0), (9, 0), (9, 0), (9, 0), (9, 0), (9, 0), (9, 0), (9, 0), (9, 0), (9, 0), (9, 0), (9, 0), (9, 0), (9, 0)] (if v.1 = 9 then [] else v :: []) m' Q) = Q1
  show zW E (d - 1) 143 0 [(2, 69), (0, a0)] [] m0 Q1
  refine zw_3 zr_143_0 rfl ?_
  refine zw_36 zr_143_1 ?_
  refine zw_push zr_143_2 ?_
  refine zw_7 zr_143_3 rfl ?_
  refine zw_C zr_143_4 (Or.inl rfl) zm_141 rfl rfl ⟨Nat.le_of_ble_eq_true rfl, Nat.le_of_ble_eq_true rfl, Nat.le_of_ble_eq_true rfl, rfl, by decide⟩ (by omega) (P := (fun v m' => zW E (d - 1) 143 7 [(2, 69), (0, a0)] (if v.1 = 9 then [(1, 0), (1, a0)] else v :: [(1, 0), (1, a0)]) m' Q1)) ?_ (fun _ _ h => h)
  generalize hQ2 : (fun v m' => zW E (d - 1) 143 7 [(2, 69), (0, a0)] (if v.1 = 9 then [(1, 0), (1, a0)] else v :: [(1, 0), (1, a0)]) m' Q1) = Q2
  show zW E (d - 1 - 1) 141 0 [(2, 69)] [] m0 Q2
  refine zw_7 zr_141_0 rfl ?_
  refine zw_46r (s := 70) zr_141_1 rfl rfl rfl rfl ?_
  refine zw_push zr_141_4 ?_
  obtain ⟨f1, ef1⟩ : ∃ v, m0 70 822 = v := ⟨_, rfl⟩
  have bf1 : 0 ≤ m0 70 822 ∧ m0 70 822 ≤ 10 := ib_70_players hI0 (by omega)
  rw [ef1] at bf1
  refine zw_48k (c := 70) (len := 826) zr_141_7 rfl rfl (by omega) (by omega) (show (822 : Int).toNat = 822 by omega) ef1 ?_
  refine zw_R zr_141_8 (by decide) zm_141 (v := (0, f1)) rfl ?_
  rw [← hQ2]
  show zW E (d - 1) 143 7 [(2, 69), (0, a0)] [(0, f1), (1, 0), (1, a0)] m0 Q1
  refine zw_push zr_143_7 ?_
  refine zw_17 zr_143_8 (by omega) ?_
  refine zw_36 zr_143_9 ?_
  refine zw_C zr_143_10 (Or.inr rfl) zm_140 rfl rfl ⟨Nat.le_of_ble_eq_true rfl, Nat.le_of_ble_eq_true rfl, Nat.le_of_ble_eq_true rfl, rfl, by decide⟩ (by omega) (P := (fun v m' => zW E (d - 1) 143 13 [(2, 69), (0, a0)] (if v.1 = 9 then [] else v :: []) m' Q1)) ?_ (fun _ _ h => h)
  generalize hQ2 : (fun v m' => zW E (d - 1) 143 13 [(2, 69), (0, a0)] (if v.1 = 9 then [] else v :: []) m' Q1) = Q2
  show zW E (d - 1 - 1) 140 0 [(1, a0), (9, 0), (1, 0), (9, 0), (1, (f1 - 1)), (9, 0)] [] m0 Q2
  refine zw_5 zr_140_0 rfl ?_
  refine zw_5 zr_140_1 rfl ?_
  refine zw_39_0 zr_140_2 zr_140_3 ?_ ?_
  · intro h2
    refine zw_push zr_140_17 ?_
    refine zw_R zr_140_18 (by decide) zm_140 (v := (0, 0)) (zRetB (by omega)) ?_
    rw [← hQ2]
    show zW E (d - 1) 143 13 [(2, 69), (0, a0)] [(0, 0)] m0 Q1
    refine zw_R zr_143_13 (by decide) zm_143 (v := (0, 0)) (zRetB (by omega)) ?_
    rw [← hQ1]
    show zW E (d) 206 5 [(2, 69), (0, a0), (0, a1), (9, 0), (9, 0), (9, 0), (9, 0), (9, 0), (9, 0), (9, 0), (9, 0), (9, 0), (9, 0), (9, 0), (9, 0), (9, 0), (9, 0), (9, 0)] [(0, 0)] m0 Q
    refine zw_40_1 zr_206_5 ?_ ?_
    · intro h3
      refine zw_push zr_206_18 ?_
      refine zw_R zr_206_20 (by decide) zm_206 (v := (0, (-2))) rfl ?_
      rw [← hQ]; exact ⟨_, rfl, by omega, by omega, hI0, hF0⟩
    · intro h4; omega
  · intro h5
    refine zw_5 zr_140_6 rfl ?_
    refine zw_6 zr_140_7 rfl ?_
    refine zw_39_2 zr_140_9 zr_140_10 ?_ ?_
    · intro h6
      refine zw_push zr_140_17 ?_
      refine zw_R zr_140_18 (by decide) zm_140 (v := (0, 0)) (zRetB (by omega)) ?_
      rw [← hQ2]
      show zW E (d - 1) 143 13 [(2, 69), (0, a0)] [(0, 0)] m0 Q1
      refine zw_R zr_143_13 (by decide) zm_143 (v := (0, 0)) (zRetB (by omega)) ?_
      rw [← hQ1]
      show zW E (d) 206 5 [(2, 69), (0, a0), (0, a1), (9, 0), (9, 0), (9, 0), (9, 0), (9, 0), (9, 0), (9, 0), (9, 0), (9, 0), (9, 0), (9, 0), (9, 0), (9, 0), (9, 0), (9, 0)] [(0, 0)] m0 Q
      refine zw_40_1 zr_206_5 ?_ ?_
      · intro h7
        refine zw_push zr_206_18 ?_
        refine zw_R zr_206_20 (by decide) zm_206 (v := (0, (-2))) rfl ?_
        rw [← hQ]; exact ⟨_, rfl, by omega, by omega, hI0, hF0⟩
      · intro h8; omega
    · intro h9
      refine zw_push zr_140_13 ?_
      refine zw_42 zr_140_14 ?_
      refine zw_R zr_140_18 (by decide) zm_140 (v := (0, 1)) (zRetB (by omega)) ?_
      rw [← hQ2]
      show zW E (d - 1) 143 13 [(2, 69), (0, a0)] [(0, 1)] m0 Q1
      refine zw_R zr_143_13 (by decide) zm_143 (v := (0, 1)) (zRetB (by omega)) ?_
      rw [← hQ1]
      show zW E (d) 206 5 [(2, 69), (0, a0), (0, a1), (9, 0), (9, 0), (9, 0), (9, 0), (9, 0), (9, 0), (9, 0), (9, 0), (9, 0), (9, 0), (9, 0), (9, 0), (9, 0), (9, 0), (9, 0)] [(0, 1)] m0 Q
      refine zw_40_1 zr_206_5 ?_ ?_
      · intro h10; omega
      · intro h11
        refine zw_3 zr_206_8 rfl ?_
        refine zw_36 zr_206_9 ?_
        refine zw_push zr_206_10 ?_
        refine zw_push zr_206_11 ?_
        refine zw_C zr_206_12 (Or.inr rfl) zm_140 rfl rfl ⟨Nat.le_of_ble_eq_true rfl, Nat.le_of_ble_eq_true rfl, Nat.le_of_ble_eq_true rfl, rfl, by decide⟩ (by omega) (P := (fun v m' => zW E (d) 206 15 [(2, 69), (0, a0), (0, a1), (9, 0), (9, 0), (9, 0), (9, 0), (9, 0), (9, 0), (9, 0), (9, 0), (9, 0), (9, 0), (9, 0), (9, 0), (9, 0), (9, 0), (9, 0)] (if v.1 = 9 then [] else v :: []) m' Q)) ?_ (fun _ _ h => h)
        generalize hQ1 : (fun v m' => zW E (d) 206 15 [(2, 69), (0, a0), (0, a1), (9, 0), (9, 0), (9, 0), (9, 0), (9, 0), (9, 0), (9, 0), (9, 0), (9, 0), (9, 0), (9, 0), (9, 0), (9, 0), (9, 0), (9, 0)] (if v.1 = 9 then [] else v :: []) m' Q) = Q1
        show zW E (d - 1) 140 0 [(1, a1), (9, 0), (1, 0), (9, 0), (1, 1), (9, 0)] [] m0 Q1
        refine zw_5 zr_140_0 rfl ?_
        refine zw_5 zr_140_1 rfl ?_
        refine zw_39_0 zr_140_2 zr_140_3 ?_ ?_
        · intro h12
          refine zw_push zr_140_17 ?_
          refine zw_R zr_140_18 (by decide) zm_140 (v := (0, 0)) (zRetB (by omega)) ?_
          rw [← hQ1]
          show zW E (d) 206 15 [(2, 69), (0, a0), (0, a1), (9, 0), (9, 0), (9, 0), (9, 0), (9, 0), (9, 0), (9, 0), (9, 0), (9, 0), (9, 0), (9, 0), (9, 0), (9, 0), (9, 0), (9, 0)] [(0, 0)] m0 Q
          refine zw_40_4 zr_206_15 ?_ ?_
          · intro h13; omega
          · intro h14
            refine zw_push zr_206_18 ?_
            refine zw_R zr_206_20 (by decide) zm_206 (v := (0, (-2))) rfl ?_
            rw [← hQ]; exact ⟨_, rfl, by omega, by omega, hI0, hF0⟩
        · intro h15
          refine zw_5 zr_140_6 rfl ?_
          refine zw_6 zr_140_7 rfl ?_
          refine zw_39_2 zr_140_9 zr_140_10 ?_ ?_
          · intro h16
            refine zw_push zr_140_17 ?_
            refine zw_R zr_140_18 (by decide) zm_140 (v := (0, 0)) (zRetB (by omega)) ?_
            rw [← hQ1]
            show zW E (d) 206 15 [(2, 69), (0, a0), (0, a1), (9, 0), (9, 0), (9, 0), (9, 0), (9, 0), (9, 0), (9, 0), (9, 0), (9, 0), (9, 0), (9, 0), (9, 0), (9, 0), (9, 0), (9, 0)] [(0, 0)] m0 Q
            refine zw_40_4 zr_206_15 ?_ ?_
            · intro h17; omega
            · intro h18
              refine zw_push zr_206_18 ?_
              refine zw_R zr_206_20 (by decide) zm_206 (v := (0, (-2))) rfl ?_
              rw [← hQ]; exact ⟨_, rfl, by omega, by omega, hI0, hF0⟩
          · intro h19
            refine zw_push zr_140_13 ?_
            refine zw_42 zr_140_14 ?_
            refine zw_R zr_140_18 (by decide) zm_140 (v := (0, 1)) (zRetB (by omega)) ?_
            rw [← hQ1]
            show zW E (d) 206 15 [(2, 69), (0, a0), (0, a1), (9, 0), (9, 0), (9, 0), (9, 0), (9, 0), (9, 0), (9, 0), (9, 0), (9, 0), (9, 0), (9, 0), (9, 0), (9, 0), (9, 0), (9, 0)] [(0, 1)] m0 Q
            refine zw_40_4 zr_206_15 ?_ ?_
            · intro h20
              refine zw_push zr_206_21 ?_
              refine zw_13 (L' := [(2, 69), (0, a0), (0, a1), (1, 0), (9, 0), (9, 0), (9, 0), (9, 0), (9, 0), (9, 0), (9, 0), (9, 0), (9, 0), (9, 0), (9, 0), (9, 0), (9, 0), (9, 0)]) zr_206_22 (Nat.le_of_ble_eq_true rfl) rfl ?_
              refine zw_push zr_206_23 ?_
              refine zw_14 (L' := [(2, 69), (0, a0), (0, a1), (1, 0), (9, 0), (1, 0), (9, 0), (9, 0), (9, 0), (9, 0), (9, 0), (9, 0), (9, 0), (9, 0), (9, 0), (9, 0), (9, 0), (9, 0)]) zr_206_24 (Nat.le_of_ble_eq_true rfl) rfl ?_
              refine zw_push zr_206_26 ?_
              refine zw_14 (L' := [(2, 69), (0, a0), (0, a1), (1, 0), (9, 0), (1, 0), (9, 0), (1, 0), (9, 0), (9, 0), (9, 0), (9, 0), (9, 0), (9, 0), (9, 0), (9, 0), (9, 0), (9, 0)]) zr_206_27 (Nat.le_of_ble_eq_true rfl) rfl ?_
              refine zw_push zr_206_29 ?_
              refine zw_14 (L' := [(2, 69), (0, a0), (0, a1), (1, 0), (9, 0), (1, 0), (9, 0), (1, 0), (9, 0), (1, 1), (9, 0), (9, 0), (9, 0), (9, 0), (9, 0), (9, 0), (9, 0), (9, 0)]) zr_206_30 (Nat.le_of_ble_eq_true rfl) rfl ?_
              refine zw_push zr_206_32 ?_
              refine zw_14 (L' := [(2, 69), (0, a0), (0, a1), (1, 0), (9, 0), (1, 0), (9, 0), (1, 0), (9, 0), (1, 1), (9, 0), (1, 0), (9, 0), (9, 0), (9, 0), (9, 0), (9, 0), (9, 0)]) zr_206_33 (Nat.le_of_ble_eq_true rfl) rfl ?_
              refine zw_push zr_206_35 ?_
              refine zw_10 (L' := [(2, 69), (0, a0), (0, a1), (1, 0), (9, 0), (1, 0), (9, 0), (1, 0), (9, 0), (1, 1), (9, 0), (1, 0), (9, 0), (0, 0), (9, 0), (9, 0), (9, 0), (9, 0)]) zr_206_36 (Nat.le_of_ble_eq_true rfl) rfl ?_
              refine zw_4 zr_206_38 rfl ?_
              refine zw_push zr_206_40 ?_
              refine zw_41_3 zr_206_41 ?_ ?_
              · intro h21; omega
              · intro h22
                refine zw_7 zr_206_44 rfl ?_
                refine zw_46r (s := 70) zr_206_45 rfl rfl rfl rfl ?_
                refine zw_push zr_206_48 ?_
                refine zw_push zr_206_50 ?_
                refine zw_3 zr_206_52 rfl ?_
                refine zw_18 zr_206_53 (by omega) ?_
                refine zw_16 zr_206_54 (by omega) ?_
                refine zw_push zr_206_55 ?_
                refine zw_4 zr_206_56 rfl ?_
                refine zw_18 zr_206_58 (by omega) ?_
                refine zw_16 zr_206_59 (by omega) ?_
                refine zw_48 (c := 70) (len := 826) zr_206_60 rfl rfl (by omega) (by omega) ?_
                intro x23 ex23
                have bx23 := ib_70_moves hI0 (k := (((10 + (8 * a0)) + (2 * 0))).toNat) (by omega)
                rw [← ex23] at bx23
                clear ex23
                refine zw_36 zr_206_61 ?_
                refine zw_14 (L' := [(2, 69), (0, a0), (0, a1), (1, 0), (9, 0), (1, 0), (9, 0), (1, 0), (9, 0), (1, 1), (9, 0), (1, 0), (9, 0), (0, 0), (1, x23), (9, 0), (9, 0), (9, 0)]) zr_206_62 (Nat.le_of_ble_eq_true rfl) rfl ?_
                refine zw_7 zr_206_64 rfl ?_
                refine zw_46r (s := 70) zr_206_65 rfl rfl rfl rfl ?_
                refine zw_push zr_206_68 ?_
                refine zw_push zr_206_70 ?_
                refine zw_3 zr_206_72 rfl ?_
                refine zw_18 zr_206_73 (by omega) ?_
                refine zw_16 zr_206_74 (by omega) ?_
                refine zw_push zr_206_75 ?_
                refine zw_4 zr_206_76 rfl ?_
                refine zw_18 zr_206_78 (by omega) ?_
                refine zw_16 zr_206_79 (by omega) ?_
                refine zw_push zr_206_80 ?_
                refine zw_16 zr_206_81 (by omega) ?_
                refine zw_48 (c := 70) (len := 826) zr_206_82 rfl rfl (by omega) (by omega) ?_
                intro x24 ex24
                have bx24 := ib_70_moves hI0 (k := ((((10 + (8 * a0)) + (2 * 0)) + 1)).toNat) (by omega)
                rw [← ex24] at bx24
                clear ex24
                refine zw_36 zr_206_83 ?_
                refine zw_14 (L' := [(2, 69), (0, a0), (0, a1), (1, 0), (9, 0), (1, 0), (9, 0), (1, 0), (9, 0), (1, 1), (9, 0), (1, 0), (9, 0), (0, 0), (1, x23), (9, 0), (1, x24), (9, 0)]) zr_206_84 (Nat.le_of_ble_eq_true rfl) rfl ?_
                refine zw_6 zr_206_86 rfl ?_
                refine zw_push zr_206_88 ?_
                refine zw_39_5 zr_206_89 zr_206_90 ?_ ?_
                · intro h25
                  refine zw_15 (c := 1) (L' := [(2, 69), (0, a0), (0, a1), (1, 0), (9, 0), (1, 0), (9, 0), (1, 0), (9, 0), (1, 1), (9, 0), (1, 0), (9, 0), (0, (0 + 1)), (1, x23), (9, 0), (1, x24), (9, 0)]) zr_206_155 rfl (by decide) (by omega) rfl ?_
                  refine zw_42 zr_206_158 ?_
                  refine zw_4 zr_206_38 rfl ?_
                  refine zw_push zr_206_40 ?_
                  refine zw_41_3 zr_206_41 ?_ ?_
                  · intro h26; omega
                  · intro h27
                    refine zw_7 zr_206_44 rfl ?_
                    refine zw_46r (s := 70) zr_206_45 rfl rfl rfl rfl ?_
                    refine zw_push zr_206_48 ?_
                    refine zw_push zr_206_50 ?_
                    refine zw_3 zr_206_52 rfl ?_
                    refine zw_18 zr_206_53 (by omega) ?_
                    refine zw_16 zr_206_54 (by omega) ?_
                    refine zw_push zr_206_55 ?_
                    refine zw_4 zr_206_56 rfl ?_
                    refine zw_18 zr_206_58 (by omega) ?_
                    refine zw_16 zr_206_59 (by omega) ?_
                    refine zw_48 (c := 70) (len := 826) zr_206_60 rfl rfl (by omega) (by omega) ?_
                    intro x28 ex28
                    have bx28 := ib_70_moves hI0 (k := (((10 + (8 * a0)) + (2 * (0 + 1)))).toNat) (by omega)
                    rw [← ex28] at bx28
                    clear ex28
                    refine zw_36 zr_206_61 ?_
                    refine zw_14 (L' := [(2, 69), (0, a0), (0, a1), (1, 0), (9, 0), (1, 0), (9, 0), (1, 0), (9, 0), (1, 1), (9, 0), (1, 0), (9, 0), (0, (0 + 1)), (1, x28), (9, 0), (1, x24), (9, 0)]) zr_206_62 (Nat.le_of_ble_eq_true rfl) rfl ?_
                    refine zw_7 zr_206_64 rfl ?_
                    refine zw_46r (s := 70) zr_206_65 rfl rfl rfl rfl ?_
                    refine zw_push zr_206_68 ?_
                    refine zw_push zr_206_70 ?_
                    refine zw_3 zr_206_72 rfl ?_
                    refine zw_18 zr_206_73 (by omega) ?_
                    refine zw_16 zr_206_74 (by omega) ?_
                    refine zw_push zr_206_75 ?_
                    refine zw_4 zr_206_76 rfl ?_
                    refine zw_18 zr_206_78 (by omega) ?_
                    refine zw_16 zr_206_79 (by omega) ?_
                    refine zw_push zr_206_80 ?_
                    refine zw_16 zr_206_81 (by omega) ?_
                    refine zw_48 (c := 70) (len := 826) zr_206_82 rfl rfl (by omega) (by omega) ?_
                    intro x29 ex29
                    have bx29 := ib_70_moves hI0 (k := ((((10 + (8 * a0)) + (2 * (0 + 1))) + 1)).toNat) (by omega)
                    rw [← ex29] at bx29
                    clear ex29
                    refine zw_36 zr_206_83 ?_
                    refine zw_14 (L' := [(2, 69), (0, a0), (0, a1), (1, 0), (9, 0), (1, 0), (9, 0), (1, 0), (9, 0), (1, 1), (9, 0), (1, 0), (9, 0), (0, (0 + 1)), (1, x28), (9, 0), (1, x29), (9, 0)]) zr_206_84 (Nat.le_of_ble_eq_true rfl) rfl ?_
                    refine zw_6 zr_206_86 rfl ?_
                    refine zw_push zr_206_88 ?_
                    refine zw_39_5 zr_206_89 zr_206_90 ?_ ?_
                    · intro h30
                      refine zw_15 (c := 1) (L' := [(2, 69), (0, a0), (0, a1), (1, 0), (9, 0), (1, 0), (9, 0), (1, 0), (9, 0), (1, 1), (9, 0), (1, 0), (9, 0), (0, ((0 + 1) + 1)), (1, x28), (9, 0), (1, x29), (9, 0)]) zr_206_155 rfl (by decide) (by omega) rfl ?_
                      refine zw_42 zr_206_158 ?_
                      refine zw_4 zr_206_38 rfl ?_
                      refine zw_push zr_206_40 ?_
                      refine zw_41_3 zr_206_41 ?_ ?_
                      · intro h31; omega
                      · intro h32
                        refine zw_7 zr_206_44 rfl ?_
                        refine zw_46r (s := 70) zr_206_45 rfl rfl rfl rfl ?_
                        refine zw_push zr_206_48 ?_
                        refine zw_push zr_206_50 ?_
                        refine zw_3 zr_206_52 rfl ?_
                        refine zw_18 zr_206_53 (by omega) ?_
                        refine zw_16 zr_206_54 (by omega) ?_
                        refine zw_push zr_206_55 ?_
                        refine zw_4 zr_206_56 rfl ?_
                        refine zw_18 zr_206_58 (by omega) ?_
                        refine zw_16 zr_206_59 (by omega) ?_
                        refine zw_48 (c := 70) (len := 826) zr_206_60 rfl rfl (by omega) (by omega) ?_
                        intro x33 ex33
                        have bx33 := ib_70_moves hI0 (k := (((10 + (8 * a0)) + (2 * ((0 + 1) + 1)))).toNat) (by omega)
                        rw [← ex33] at bx33
                        clear ex33
                        refine zw_36 zr_206_61 ?_
                        refine zw_14 (L' := [(2, 69), (0, a0), (0, a1), (1, 0), (9, 0), (1, 0), (9, 0), (1, 0), (9, 0), (1, 1), (9, 0), (1, 0), (9, 0), (0, ((0 + 1) + 1)), (1, x33), (9, 0), (1, x29), (9, 0)]) zr_206_62 (Nat.le_of_ble_eq_true rfl) rfl ?_
                        refine zw_7 zr_206_64 rfl ?_
                        refine zw_46r (s := 70) zr_206_65 rfl rfl rfl rfl ?_
                        refine zw_push zr_206_68 ?_
                        refine zw_push zr_206_70 ?_
                        refine zw_3 zr_206_72 rfl ?_
                        refine zw_18 zr_206_73 (by omega) ?_
                        refine zw_16 zr_206_74 (by omega) ?_
                        refine zw_push zr_206_75 ?_
                        refine zw_4 zr_206_76 rfl ?_
                        refine zw_18 zr_206_78 (by omega) ?_
                        refine zw_16 zr_206_79 (by omega) ?_
                        refine zw_push zr_206_80 ?_
                        refine zw_16 zr_206_81 (by omega) ?_
                        refine zw_48 (c := 70) (len := 826) zr_206_82 rfl rfl (by omega) (by omega) ?_
                        intro x34 ex34
                        have bx34 := ib_70_moves hI0 (k := ((((10 + (8 * a0)) + (2 * ((0 + 1) + 1))) + 1)).toNat) (by omega)
                        rw [← ex34] at bx34
                        clear ex34
                        refine zw_36 zr_206_83 ?_
                        refine zw_14 (L' := [(2, 69), (0, a0), (0, a1), (1, 0), (9, 0), (1, 0), (9, 0), (1, 0), (9, 0), (1, 1), (9, 0), (1, 0), (9, 0), (0, ((0 + 1) + 1)), (1, x33), (9, 0), (1, x34), (9, 0)]) zr_206_84 (Nat.le_of_ble_eq_true rfl) rfl ?_
                        refine zw_6 zr_206_86 rfl ?_
                        refine zw_push zr_206_88 ?_
                        refine zw_39_5 zr_206_89 zr_206_90 ?_ ?_
                        · intro h35
                          refine zw_15 (c := 1) (L' := [(2, 69), (0, a0), (0, a1), (1, 0), (9, 0), (1, 0), (9, 0), (1, 0), (9, 0), (1, 1), (9, 0), (1, 0), (9, 0), (0, (((0 + 1) + 1) + 1)), (1, x33), (9, 0), (1, x34), (9, 0)]) zr_206_155 rfl (by decide) (by omega) rfl ?_
                          refine zw_42 zr_206_158 ?_
                          refine zw_4 zr_206_38 rfl ?_
                          refine zw_push zr_206_40 ?_
                          refine zw_41_3 zr_206_41 ?_ ?_
                          · intro h36; omega
                          · intro h37
                            refine zw_7 zr_206_44 rfl ?_
                            refine zw_46r (s := 70) zr_206_45 rfl rfl rfl rfl ?_
                            refine zw_push zr_206_48 ?_
                            refine zw_push zr_206_50 ?_
                            refine zw_3 zr_206_52 rfl ?_
                            refine zw_18 zr_206_53 (by omega) ?_
                            refine zw_16 zr_206_54 (by omega) ?_
                            refine zw_push zr_206_55 ?_
                            refine zw_4 zr_206_56 rfl ?_
                            refine zw_18 zr_206_58 (by omega) ?_
                            refine zw_16 zr_206_59 (by omega) ?_
                            refine zw_48 (c := 70) (len := 826) zr_206_60 rfl rfl (by omega) (by omega) ?_
                            intro x38 ex38
                            have bx38 := ib_70_moves hI0 (k := (((10 + (8 * a0)) + (2 * (((0 + 1) + 1) + 1)))).toNat) (by omega)
                            rw [← ex38] at bx38
                            clear ex38
                            refine zw_36 zr_206_61 ?_
                            refine zw_14 (L' := [(2, 69), (0, a0), (0, a1), (1, 0), (9, 0), (1, 0), (9, 0), (1, 0), (9, 0), (1, 1), (9, 0), (1, 0), (9, 0), (0, (((0 + 1) + 1) + 1)), (1, x38), (9, 0), (1, x34), (9, 0)]) zr_206_62 (Nat.le_of_ble_eq_true rfl) rfl ?_
                            refine zw_7 zr_206_64 rfl ?_
                            refine zw_46r (s := 70) zr_206_65 rfl rfl rfl rfl ?_
                            refine zw_push zr_206_68 ?_
                            refine zw_push zr_206_70 ?_
                            refine zw_3 zr_206_72 rfl ?_
                            refine zw_18 zr_206_73 (by omega) ?_
                            refine zw_16 zr_206_74 (by omega) ?_
                            refine zw_push zr_206_75 ?_
                            refine zw_4 zr_206_76 rfl ?_
                            refine zw_18 zr_206_78 (by omega) ?_
                            refine zw_16 zr_206_79 (by omega) ?_
                            refine zw_push zr_206_80 ?_
                            refine zw_16 zr_206_81 (by omega) ?_
                            refine zw_48 (c := 70) (len := 826) zr_206_82 rfl rfl (by omega) (by omega) ?_
                            intro x39 ex39
                            have bx39 := ib_70_moves hI0 (k := ((((10 + (8 * a0)) + (2 * (((0 + 1) + 1) + 1))) + 1)).toNat) (by omega)
                            rw [← ex39] at bx39
                            clear ex39
                            refine zw_36 zr_206_83 ?_
                            refine zw_14 (L' := [(2, 69), (0, a0), (0, a1), (1, 0), (9, 0), (1, 0), (9, 0), (1, 0), (9, 0), (1, 1), (9, 0), (1, 0), (9, 0), (0, (((0 + 1) + 1) + 1)), (1, x38), (9, 0), (1, x39), (9, 0)]) zr_206_84 (Nat.le_of_ble_eq_true rfl) rfl ?_
                            refine zw_6 zr_206_86 rfl ?_
                            refine zw_push zr_206_88 ?_
                            refine zw_39_5 zr_206_89 zr_206_90 ?_ ?_
                            · intro h40
                              refine zw_15 (c := 1) (L' := [(2, 69), (0, a0), (0, a1), (1, 0), (9, 0), (1, 0), (9, 0), (1, 0), (9, 0), (1, 1), (9, 0), (1, 0), (9, 0), (0, ((((0 + 1) + 1) + 1) + 1)), (1, x38), (9, 0), (1, x39), (9, 0)]) zr_206_155 rfl (by decide) (by omega) rfl ?_
                              refine zw_42 zr_206_158 ?_
                              refine zw_4 zr_206_38 rfl ?_
                              refine zw_push zr_206_40 ?_
                              refine zw_41_3 zr_206_41 ?_ ?_
                              · intro h41
                                refine zw_6 zr_206_161 rfl ?_
                                refine zw_push zr_206_163 ?_
                                refine zw_39_4 zr_206_164 zr_206_165 ?_ ?_
                                · intro h42; omega
                                · intro h43
                                  refine zw_push zr_206_168 ?_
                                  refine zw_R zr_206_170 (by decide) zm_206 (v := (0, (-3))) rfl ?_
                                  rw [← hQ]; exact ⟨_, rfl, by omega, by omega, hI0, hF0⟩
                              · intro h44; omega
                            · intro h45
                              refine zw_5 zr_206_93 rfl ?_
                              refine zw_6 zr_206_94 rfl ?_
                              refine zw_27 zr_206_96 (by omega) ?_
                              refine zw_13 (L' := [(2, 69), (0, a0), (0, a1), (1, (0 + x38)), (9, 0), (1, 0), (9, 0), (1, 0), (9, 0), (1, 1), (9, 0), (1, 0), (9, 0), (0, (((0 + 1) + 1) + 1)), (1, x38), (9, 0), (1, x39), (9, 0)]) zr_206_97 (Nat.le_of_ble_eq_true rfl) rfl ?_
                              refine zw_6 zr_206_98 rfl ?_
                              refine zw_6 zr_206_100 rfl ?_
                              refine zw_27 zr_206_102 (by omega) ?_
                              refine zw_14 (L' := [(2, 69), (0, a0), (0, a1), (1, (0 + x38)), (9, 0), (1, (0 + x39)), (9, 0), (1, 0), (9, 0), (1, 1), (9, 0), (1, 0), (9, 0), (0, (((0 + 1) + 1) + 1)), (1, x38), (9, 0), (1, x39), (9, 0)]) zr_206_103 (Nat.le_of_ble_eq_true rfl) rfl ?_
                              refine zw_6 zr_206_105 rfl ?_
                              refine zw_6 zr_206_107 rfl ?_
                              refine zw_29 zr_206_109 (by omega) ?_
                              refine zw_7 zr_206_110 rfl ?_
                              refine zw_46r (s := 70) zr_206_111 rfl rfl rfl rfl ?_
                              refine zw_push zr_206_114 ?_
                              refine zw_4 zr_206_117 rfl ?_
                              refine zw_16 zr_206_119 (by omega) ?_
                              obtain ⟨f46, ef46⟩ : ∃ v, m0 70 821 = v := ⟨_, rfl⟩
                              have bf46 : 1 ≤ m0 70 821 ∧ m0 70 821 ≤ 9 := ib_70_weight hI0 (by omega)
                              rw [ef46] at bf46
                              refine zw_48k (c := 70) (len := 826) zr_206_120 rfl rfl (by omega) (by omega) (show ((818 + (((0 + 1) + 1) + 1)) : Int).toNat = 821 by omega) ef46 ?_
                              refine zw_36 zr_206_121 ?_
                              refine zw_6 zr_206_122 rfl ?_
                              refine zw_29h zr_206_124 ?_
                              intro x47 hx47a hx47b
                              refine zw_6 zr_206_125 rfl ?_
                              refine zw_29 zr_206_127 (by omega) ?_
                              refine zw_27 zr_206_128 (by omega) ?_
                              refine zw_14 (L' := [(2, 69), (0, a0), (0, a1), (1, (0 + x38)), (9, 0), (1, (0 + x39)), (9, 0), (1, ((0 * x39) + (x47 * 1))), (9, 0), (1, 1), (9, 0), (1, 0), (9, 0), (0, (((0 + 1) + 1) + 1)), (1, x38), (9, 0), (1, x39), (9, 0)]) zr_206_129 (Nat.le_of_ble_eq_true rfl) rfl ?_
                              refine zw_6 zr_206_131 rfl ?_
                              refine zw_6 zr_206_133 rfl ?_
                              refine zw_29 zr_206_135 (by omega) ?_
                              refine zw_14 (L' := [(2, 69), (0, a0), (0, a1), (1, (0 + x38)), (9, 0), (1, (0 + x39)), (9, 0), (1, ((0 * x39) + (x47 * 1))), (9, 0), (1, (1 * x39)), (9, 0), (1, 0), (9, 0), (0, (((0 + 1) + 1) + 1)), (1, x38), (9, 0), (1, x39), (9, 0)]) zr_206_136 (Nat.le_of_ble_eq_true rfl) rfl ?_
                              refine zw_6 zr_206_138 rfl ?_
                              refine zw_7 zr_206_140 rfl ?_
                              refine zw_46r (s := 70) zr_206_141 rfl rfl rfl rfl ?_
                              refine zw_push zr_206_144 ?_
                              refine zw_4 zr_206_147 rfl ?_
                              refine zw_16 zr_206_149 (by omega) ?_
                              refine zw_48k (c := 70) (len := 826) zr_206_150 rfl rfl (by omega) (by omega) (show ((818 + (((0 + 1) + 1) + 1)) : Int).toNat = 821 by omega) ef46 ?_
                              refine zw_36 zr_206_151 ?_
                              refine zw_27 zr_206_152 (by omega) ?_
                              refine zw_14 (L' := [(2, 69), (0, a0), (0, a1), (1, (0 + x38)), (9, 0), (1, (0 + x39)), (9, 0), (1, ((0 * x39) + (x47 * 1))), (9, 0), (1, (1 * x39)), (9, 0), (1, (0 + f46)), (9, 0), (0, (((0 + 1) + 1) + 1)), (1, x38), (9, 0), (1, x39), (9, 0)]) zr_206_153 (Nat.le_of_ble_eq_true rfl) rfl ?_
                              refine zw_15 (c := 1) (L' := [(2, 69), (0, a0), (0, a1), (1, (0 + x38)), (9, 0), (1, (0 + x39)), (9, 0), (1, ((0 * x39) + (x47 * 1))), (9, 0), (1, (1 * x39)), (9, 0), (1, (0 + f46)), (9, 0), (0, ((((0 + 1) + 1) + 1) + 1)), (1, x38), (9, 0), (1, x39), (9, 0)]) zr_206_155 rfl (by decide) (by omega) rfl ?_
                              refine zw_42 zr_206_158 ?_
                              refine zw_4 zr_206_38 rfl ?_
                              refine zw_push zr_206_40 ?_
                              refine zw_41_3 zr_206_41 ?_ ?_
                              · intro h48
                                refine zw_6 zr_206_161 rfl ?_
                                refine zw_push zr_206_163 ?_
                                refine zw_39_4 zr_206_164 zr_206_165 ?_ ?_
                                · intro h49
                                  refine zw_3 zr_206_171 rfl ?_
                                  refine zw_40_4 zr_206_172 ?_ ?_
                                  · intro h50
                                    refine zw_7 zr_206_185 rfl ?_
                                    refine zw_6 zr_206_186 rfl ?_
                                    refine zw_6 zr_206_188 rfl ?_
                                    refine zw_6 zr_206_190 rfl ?_
                                    refine zw_29p (A := 99) (B := 9) zr_206_192 (by omega) (by omega) (by omega) (by omega) (by decide) ?_
                                    intro x51 hx51a hx51b
                                    refine zw_C zr_206_193 (Or.inl rfl) zm_173 rfl rfl ⟨Nat.le_of_ble_eq_true rfl, Nat.le_of_ble_eq_true rfl, Nat.le_of_ble_eq_true rfl, rfl, by decide⟩ (by omega) (th_173 (d := d - 1) (by omega) hI0 (a0 := ((0 * x39) + (x47 * 1))) (a1 := x51)      (by omega) (by omega) ) ?_
                                    rintro _ m52 ⟨rfl, hIm52, gm52⟩
                                    have hFm52 : zFr W_206 m0 m52 := hF0.trans gm52 rfl
                                    have km52_70_822 : m52 70 822 = f1 := (gm52 70 822 rfl).trans ef1
                                    have km52_70_821 : m52 70 821 = f46 := (gm52 70 821 rfl).trans ef46
                                    show zW E (d) 206 196 [(2, 69), (0, a0), (0, a1), (1, (0 + x38)), (9, 0), (1, (0 + x39)), (9, 0), (1, ((0 * x39) + (x47 * 1))), (9, 0), (1, (1 * x39)), (9, 0), (1, (0 + f46)), (9, 0), (0, ((((0 + 1) + 1) + 1) + 1)), (1, x38), (9, 0), (1, x39), (9, 0)] [] m52 Q
                                    refine zw_push zr_206_196 ?_
                                    refine zw_R zr_206_197 (by decide) zm_206 (v := (0, 1)) rfl ?_
                                    rw [← hQ]; exact ⟨_, rfl, by omega, by omega, hIm52, hFm52⟩
                                  · intro h53
                                    refine zw_7 zr_206_175 rfl ?_
                                    refine zw_5 zr_206_176 rfl ?_
                                    refine zw_6 zr_206_177 rfl ?_
                                    refine zw_C zr_206_179 (Or.inl rfl) zm_173 rfl rfl ⟨Nat.le_of_ble_eq_true rfl, Nat.le_of_ble_eq_true rfl, Nat.le_of_ble_eq_true rfl, rfl, by decide⟩ (by omega) (th_173 (d := d - 1) (by omega) hI0 (a0 := (0 + x38)) (a1 := (0 + x39))      (by omega) (by omega) ) ?_
                                    rintro _ m54 ⟨rfl, hIm54, gm54⟩
                                    have hFm54 : zFr W_206 m0 m54 := hF0.trans gm54 rfl
                                    have km54_70_822 : m54 70 822 = f1 := (gm54 70 822 rfl).trans ef1
                                    have km54_70_821 : m54 70 821 = f46 := (gm54 70 821 rfl).trans ef46
                                    show zW E (d) 206 182 [(2, 69), (0, a0), (0, a1), (1, (0 + x38)), (9, 0), (1, (0 + x39)), (9, 0), (1, ((0 * x39) + (x47 * 1))), (9, 0), (1, (1 * x39)), (9, 0), (1, (0 + f46)), (9, 0), (0, ((((0 + 1) + 1) + 1) + 1)), (1, x38), (9, 0), (1, x39), (9, 0)] [] m54 Q
                                    refine zw_42 zr_206_182 ?_
                                    refine zw_push zr_206_196 ?_
                                    refine zw_R zr_206_197 (by decide) zm_206 (v := (0, 1)) rfl ?_
                                    rw [← hQ]; exact ⟨_, rfl, by omega, by omega, hIm54, hFm54⟩
                                · intro h55; omega
                              · intro h56; omega
                        · intro h57
                          refine zw_5 zr_206_93 rfl ?_
                          refine zw_6 zr_206_94 rfl ?_
                          refine zw_27 zr_206_96 (by omega) ?_
                          refine zw_13 (L' := [(2, 69), (0, a0), (0, a1), (1, (0 + x33)), (9, 0), (1, 0), (9, 0), (1, 0), (9, 0), (1, 1), (9, 0), (1, 0), (9, 0), (0, ((0 + 1) + 1)), (1, x33), (9, 0), (1, x34), (9, 0)]) zr_206_97 (Nat.le_of_ble_eq_true rfl) rfl ?_
                          refine zw_6 zr_206_98 rfl ?_
                          refine zw_6 zr_206_100 rfl ?_
                          refine zw_27 zr_206_102 (by omega) ?_
                          refine zw_14 (L' := [(2, 69), (0, a0), (0, a1), (1, (0 + x33)), (9, 0), (1, (0 + x34)), (9, 0), (1, 0), (9, 0), (1, 1), (9, 0), (1, 0), (9, 0), (0, ((0 + 1) + 1)), (1, x33), (9, 0), (1, x34), (9, 0)]) zr_206_103 (Nat.le_of_ble_eq_true rfl) rfl ?_
                          refine zw_6 zr_206_105 rfl ?_
                          refine zw_6 zr_206_107 rfl ?_
                          refine zw_29 zr_206_109 (by omega) ?_
                          refine zw_7 zr_206_110 rfl ?_
                          refine zw_46r (s := 70) zr_206_111 rfl rfl rfl rfl ?_
                          refine zw_push zr_206_114 ?_
                          refine zw_4 zr_206_117 rfl ?_
                          refine zw_16 zr_206_119 (by omega) ?_
                          obtain ⟨f58, ef58⟩ : ∃ v, m0 70 820 = v := ⟨_, rfl⟩
                          have bf58 : 1 ≤ m0 70 820 ∧ m0 70 820 ≤ 9 := ib_70_weight hI0 (by omega)
                          rw [ef58] at bf58
                          refine zw_48k (c := 70) (len := 826) zr_206_120 rfl rfl (by omega) (by omega) (show ((818 + ((0 + 1) + 1)) : Int).toNat = 820 by omega) ef58 ?_
                          refine zw_36 zr_206_121 ?_
                          refine zw_6 zr_206_122 rfl ?_
                          refine zw_29h zr_206_124 ?_
                          intro x59 hx59a hx59b
                          refine zw_6 zr_206_125 rfl ?_
                          refine zw_29 zr_206_127 (by omega) ?_
                          refine zw_27 zr_206_128 (by omega) ?_
                          refine zw_14 (L' := [(2, 69), (0, a0), (0, a1), (1, (0 + x33)), (9, 0), (1, (0 + x34)), (9, 0), (1, ((0 * x34) + (x59 * 1))), (9, 0), (1, 1), (9, 0), (1, 0), (9, 0), (0, ((0 + 1) + 1)), (1, x33), (9, 0), (1, x34), (9, 0)]) zr_206_129 (Nat.le_of_ble_eq_true rfl) rfl ?_
                          refine zw_6 zr_206_131 rfl ?_
                          refine zw_6 zr_206_133 rfl ?_
                          refine zw_29 zr_206_135 (by omega) ?_
                          refine zw_14 (L' := [(2, 69), (0, a0), (0, a1), (1, (0 + x33)), (9, 0), (1, (0 + x34)), (9, 0), (1, ((0 * x34) + (x59 * 1))), (9, 0), (1, (1 * x34)), (9, 0), (1, 0), (9, 0), (0, ((0 + 1) + 1)), (1, x33), (9, 0), (1, x34), (9, 0)]) zr_206_136 (Nat.le_of_ble_eq_true rfl) rfl ?_
                          refine zw_6 zr_206_138 rfl ?_
                          refine zw_7 zr_206_140 rfl ?_
                          refine zw_46r (s := 70) zr_206_141 rfl rfl rfl rfl ?_
                          refine zw_push zr_206_144 ?_
                          refine zw_4 zr_206_147 rfl ?_
                          refine zw_16 zr_206_149 (by omega) ?_
                          refine zw_48k (c := 70) (len := 826) zr_206_150 rfl rfl (by omega) (by omega) (show ((818 + ((0 + 1) + 1)) : Int).toNat = 820 by omega) ef58 ?_
                          refine zw_36 zr_206_151 ?_
                          refine zw_27 zr_206_152 (by omega) ?_
                          refine zw_14 (L' := [(2, 69), (0, a0), (0, a1), (1, (0 + x33)), (9, 0), (1, (0 + x34)), (9, 0), (1, ((0 * x34) + (x59 * 1))), (9, 0), (1, (1 * x34)), (9, 0), (1, (0 + f58)), (9, 0), (0, ((0 + 1) + 1)), (1, x33), (9, 0), (1, x34), (9, 0)]) zr_206_153 (Nat.le_of_ble_eq_true rfl) rfl ?_
                          refine zw_15 (c := 1) (L' := [(2, 69), (0, a0), (0, a1), (1, (0 + x33)), (9, 0), (1, (0 + x34)), (9, 0), (1, ((0 * x34) + (x59 * 1))), (9, 0), (1, (1 * x34)), (9, 0), (1, (0 + f58)), (9, 0), (0, (((0 + 1) + 1) + 1)), (1, x33), (9, 0), (1, x34), (9, 0)]) zr_206_155 rfl (by decide) (by omega) rfl ?_
                          refine zw_42 zr_206_158 ?_
                          refine zw_4 zr_206_38 rfl ?_
                          refine zw_push zr_206_40 ?_
                          refine zw_41_3 zr_206_41 ?_ ?_
                          · intro h60; omega
                          · intro h61
                            refine zw_7 zr_206_44 rfl ?_
                            refine zw_46r (s := 70) zr_206_45 rfl rfl rfl rfl ?_
                            refine zw_push zr_206_48 ?_
                            refine zw_push zr_206_50 ?_
                            refine zw_3 zr_206_52 rfl ?_
                            refine zw_18 zr_206_53 (by omega) ?_
                            refine zw_16 zr_206_54 (by omega) ?_
                            refine zw_push zr_206_55 ?_
                            refine zw_4 zr_206_56 rfl ?_
                            refine zw_18 zr_206_58 (by omega) ?_
                            refine zw_16 zr_206_59 (by omega) ?_
                            refine zw_48 (c := 70) (len := 826) zr_206_60 rfl rfl (by omega) (by omega) ?_
                            intro x62 ex62
                            have bx62 := ib_70_moves hI0 (k := (((10 + (8 * a0)) + (2 * (((0 + 1) + 1) + 1)))).toNat) (by omega)
                            rw [← ex62] at bx62
                            clear ex62
                            refine zw_36 zr_206_61 ?_
                            refine zw_14 (L' := [(2, 69), (0, a0), (0, a1), (1, (0 + x33)), (9, 0), (1, (0 + x34)), (9, 0), (1, ((0 * x34) + (x59 * 1))), (9, 0), (1, (1 * x34)), (9, 0), (1, (0 + f58)), (9, 0), (0, (((0 + 1) + 1) + 1)), (1, x62), (9, 0), (1, x34), (9, 0)]) zr_206_62 (Nat.le_of_ble_eq_true rfl) rfl ?_
                            refine zw_7 zr_206_64 rfl ?_
                            refine zw_46r (s := 70) zr_206_65 rfl rfl rfl rfl ?_
                            refine zw_push zr_206_68 ?_
                            refine zw_push zr_206_70 ?_
                            refine zw_3 zr_206_72 rfl ?_
                            refine zw_18 zr_206_73 (by omega) ?_
                            refine zw_16 zr_206_74 (by omega) ?_
                            refine zw_push zr_206_75 ?_
                            refine zw_4 zr_206_76 rfl ?_
                            refine zw_18 zr_206_78 (by omega) ?_
                            refine zw_16 zr_206_79 (by omega) ?_
                            refine zw_push zr_206_80 ?_
                            refine zw_16 zr_206_81 (by omega) ?_
                            refine zw_48 (c := 70) (len := 826) zr_206_82 rfl rfl (by omega) (by omega) ?_
                            intro x63 ex63
                            have bx63 := ib_70_moves hI0 (k := ((((10 + (8 * a0)) + (2 * (((0 + 1) + 1) + 1))) + 1)).toNat) (by omega)
                            rw [← ex63] at bx63
                            clear ex63
                            refine zw_36 zr_206_83 ?_
                            refine zw_14 (L' := [(2, 69), (0, a0), (0, a1), (1, (0 + x33)), (9, 0), (1, (0 + x34)), (9, 0), (1, ((0 * x34) + (x59 * 1))), (9, 0), (1, (1 * x34)), (9, 0), (1, (0 + f58)), (9, 0), (0, (((0 + 1) + 1) + 1)), (1, x62), (9, 0), (1, x63), (9, 0)]) zr_206_84 (Nat.le_of_ble_eq_true rfl) rfl ?_
                            refine zw_6 zr_206_86 rfl ?_
                            refine zw_push zr_206_88 ?_
                            refine zw_39_5 zr_206_89 zr_206_90 ?_ ?_
                            · intro h64
                              refine zw_15 (c := 1) (L' := [(2, 69), (0, a0), (0, a1), (1, (0 + x33)), (9, 0), (1, (0 + x34)), (9, 0), (1, ((0 * x34) + (x59 * 1))), (9, 0), (1, (1 * x34)), (9, 0), (1, (0 + f58)), (9, 0), (0, ((((0 + 1) + 1) + 1) + 1)), (1, x62), (9, 0), (1, x63), (9, 0)]) zr_206_155 rfl (by decide) (by omega) rfl ?_
                              refine zw_42 zr_206_158 ?_
                              refine zw_4 zr_206_38 rfl ?_
                              refine zw_push zr_206_40 ?_
                              refine zw_41_3 zr_206_41 ?_ ?_
                              · intro h65
                                refine zw_6 zr_206_161 rfl ?_
                                refine zw_push zr_206_163 ?_
                                refine zw_39_4 zr_206_164 zr_206_165 ?_ ?_
                                · intro h66
                                  refine zw_3 zr_206_171 rfl ?_
                                  refine zw_40_4 zr_206_172 ?_ ?_
                                  · intro h67
                                    refine zw_7 zr_206_185 rfl ?_
                                    refine zw_6 zr_206_186 rfl ?_
                                    refine zw_6 zr_206_188 rfl ?_
                                    refine zw_6 zr_206_190 rfl ?_
                                    refine zw_29p (A := 99) (B := 9) zr_206_192 (by omega) (by omega) (by omega) (by omega) (by decide) ?_
                                    intro x68 hx68a hx68b
                                    refine zw_C zr_206_193 (Or.inl rfl) zm_173 rfl rfl ⟨Nat.le_of_ble_eq_true rfl, Nat.le_of_ble_eq_true rfl, Nat.le_of_ble_eq_true rfl, rfl, by decide⟩ (by omega) (th_173 (d := d - 1) (by omega) hI0 (a0 := ((0 * x34) + (x59 * 1))) (a1 := x68)      (by omega) (by omega) ) ?_
                                    rintro _ m69 ⟨rfl, hIm69, gm69⟩
                                    have hFm69 : zFr W_206 m0 m69 := hF0.trans gm69 rfl
                                    have km69_70_822 : m69 70 822 = f1 := (gm69 70 822 rfl).trans ef1
                                    have km69_70_820 : m69 70 820 = f58 := (gm69 70 820 rfl).trans ef58
                                    show zW E (d) 206 196 [(2, 69), (0, a0), (0, a1), (1, (0 + x33)), (9, 0), (1, (0 + x34)), (9, 0), (1, ((0 * x34) + (x59 * 1))), (9, 0), (1, (1 * x34)), (9, 0), (1, (0 + f58)), (9, 0), (0, ((((0 + 1) + 1) + 1) + 1)), (1, x62), (9, 0), (1, x63), (9, 0)] [] m69 Q
                                    refine zw_push zr_206_196 ?_
                                    refine zw_R zr_206_197 (by decide) zm_206 (v := (0, 1)) rfl ?_
                                    rw [← hQ]; exact ⟨_, rfl, by omega, by omega, hIm69, hFm69⟩
                                  · intro h70
                                    refine zw_7 zr_206_175 rfl ?_
                                    refine zw_5 zr_206_176 rfl ?_
                                    refine zw_6 zr_206_177 rfl ?_
                                    refine zw_C zr_206_179 (Or.inl rfl) zm_173 rfl rfl ⟨Nat.le_of_ble_eq_true rfl, Nat.le_of_ble_eq_true rfl, Nat.le_of_ble_eq_true rfl, rfl, by decide⟩ (by omega) (th_173 (d := d - 1) (by omega) hI0 (a0 := (0 + x33)) (a1 := (0 + x34))      (by omega) (by omega) ) ?_
                                    rintro _ m71 ⟨rfl, hIm71, gm71⟩
                                    have hFm71 : zFr W_206 m0 m71 := hF0.trans gm71 rfl
                                    have km71_70_822 : m71 70 822 = f1 := (gm71 70 822 rfl).trans ef1
                                    have km71_70_820 : m71 70 820 = f58 := (gm71 70 820 rfl).trans ef58
                                    show zW E (d) 206 182 [(2, 69), (0, a0), (0, a1), (1, (0 + x33)), (9, 0), (1, (0 + x34)), (9, 0), (1, ((0 * x34) + (x59 * 1))), (9, 0), (1, (1 * x34)), (9, 0), (1, (0 + f58)), (9, 0), (0, ((((0 + 1) + 1) + 1) + 1)), (1, x62), (9, 0), (1, x63), (9, 0)] [] m71 Q
                                    refine zw_42 zr_206_182 ?_
                                    refine zw_push zr_206_196 ?_
                                    refine zw_R zr_206_197 (by decide) zm_206 (v := (0, 1)) rfl ?_
                                    rw [← hQ]; exact ⟨_, rfl, by omega, by omega, hIm71, hFm71⟩
                                · intro h72; omega
                              · intro h73; omega
                            · intro h74
                              refine zw_5 zr_206_93 rfl ?_
                              refine zw_6 zr_206_94 rfl ?_
                              refine zw_27 zr_206_96 (by omega) ?_
                              refine zw_13 (L' := [(2, 69), (0, a0), (0, a1), (1, ((0 + x33) + x62)), (9, 0), (1, (0 + x34)), (9, 0), (1, ((0 * x34) + (x59 * 1))), (9, 0), (1, (1 * x34)), (9, 0), (1, (0 + f58)), (9, 0), (0, (((0 + 1) + 1) + 1)), (1, x62), (9, 0), (1, x63), (9, 0)]) zr_206_97 (Nat.le_of_ble_eq_true rfl) rfl ?_
                              refine zw_6 zr_206_98 rfl ?_
                              refine zw_6 zr_206_100 rfl ?_
                              refine zw_27 zr_206_102 (by omega) ?_
                              refine zw_14 (L' := [(2, 69), (0, a0), (0, a1), (1, ((0 + x33) + x62)), (9, 0), (1, ((0 + x34) + x63)), (9, 0), (1, ((0 * x34) + (x59 * 1))), (9, 0), (1, (1 * x34)), (9, 0), (1, (0 + f58)), (9, 0), (0, (((0 + 1) + 1) + 1)), (1, x62), (9, 0), (1, x63), (9, 0)]) zr_206_103 (Nat.le_of_ble_eq_true rfl) rfl ?_
                              refine zw_6 zr_206_105 rfl ?_
                              refine zw_6 zr_206_107 rfl ?_
                              refine zw_29h zr_206_109 ?_
                              intro x75 hx75a hx75b
                              refine zw_7 zr_206_110 rfl ?_
                              refine zw_46r (s := 70) zr_206_111 rfl rfl rfl rfl ?_
                              refine zw_push zr_206_114 ?_
                              refine zw_4 zr_206_117 rfl ?_
                              refine zw_16 zr_206_119 (by omega) ?_
                              obtain ⟨f76, ef76⟩ : ∃ v, m0 70 821 = v := ⟨_, rfl⟩
                              have bf76 : 1 ≤ m0 70 821 ∧ m0 70 821 ≤ 9 := ib_70_weight hI0 (by omega)
                              rw [ef76] at bf76
                              refine zw_48k (c := 70) (len := 826) zr_206_120 rfl rfl (by omega) (by omega) (show ((818 + (((0 + 1) + 1) + 1)) : Int).toNat = 821 by omega) ef76 ?_
                              refine zw_36 zr_206_121 ?_
                              refine zw_6 zr_206_122 rfl ?_
                              refine zw_29h zr_206_124 ?_
                              intro x77 hx77a hx77b
                              refine zw_6 zr_206_125 rfl ?_
                              refine zw_29h zr_206_127 ?_
                              intro x78 hx78a hx78b
                              refine zw_27h zr_206_128 ?_
                              intro x79 hx79a hx79b
                              refine zw_14 (L' := [(2, 69), (0, a0), (0, a1), (1, ((0 + x33) + x62)), (9, 0), (1, ((0 + x34) + x63)), (9, 0), (1, x79), (9, 0), (1, (1 * x34)), (9, 0), (1, (0 + f58)), (9, 0), (0, (((0 + 1) + 1) + 1)), (1, x62), (9, 0), (1, x63), (9, 0)]) zr_206_129 (Nat.le_of_ble_eq_true rfl) rfl ?_
                              refine zw_6 zr_206_131 rfl ?_
                              refine zw_6 zr_206_133 rfl ?_
                              refine zw_29p (A := 99) (B := 99) zr_206_135 (by omega) (by omega) (by omega) (by omega) (by decide) ?_
                              intro x80 hx80a hx80b
                              refine zw_14 (L' := [(2, 69), (0, a0), (0, a1), (1, ((0 + x33) + x62)), (9, 0), (1, ((0 + x34) + x63)), (9, 0), (1, x79), (9, 0), (1, x80), (9, 0), (1, (0 + f58)), (9, 0), (0, (((0 + 1) + 1) + 1)), (1, x62), (9, 0), (1, x63), (9, 0)]) zr_206_136 (Nat.le_of_ble_eq_true rfl) rfl ?_
                              refine zw_6 zr_206_138 rfl ?_
                              refine zw_7 zr_206_140 rfl ?_
                              refine zw_46r (s := 70) zr_206_141 rfl rfl rfl rfl ?_
                              refine zw_push zr_206_144 ?_
                              refine zw_4 zr_206_147 rfl ?_
                              refine zw_16 zr_206_149 (by omega) ?_
                              refine zw_48k (c := 70) (len := 826) zr_206_150 rfl rfl (by omega) (by omega) (show ((818 + (((0 + 1) + 1) + 1)) : Int).toNat = 821 by omega) ef76 ?_
                              refine zw_36 zr_206_151 ?_
                              refine zw_27 zr_206_152 (by omega) ?_
                              refine zw_14 (L' := [(2, 69), (0, a0), (0, a1), (1, ((0 + x33) + x62)), (9, 0), (1, ((0 + x34) + x63)), (9, 0), (1, x79), (9, 0), (1, x80), (9, 0), (1, ((0 + f58) + f76)), (9, 0), (0, (((0 + 1) + 1) + 1)), (1, x62), (9, 0), (1, x63), (9, 0)]) zr_206_153 (Nat.le_of_ble_eq_true rfl) rfl ?_
                              refine zw_15 (c := 1) (L' := [(2, 69), (0, a0), (0, a1), (1, ((0 + x33) + x62)), (9, 0), (1, ((0 + x34) + x63)), (9, 0), (1, x79), (9, 0), (1, x80), (9, 0), (1, ((0 + f58) + f76)), (9, 0), (0, ((((0 + 1) + 1) + 1) + 1)), (1, x62), (9, 0), (1, x63), (9, 0)]) zr_206_155 rfl (by decide) (by omega) rfl ?_
                              refine zw_42 zr_206_158 ?_
                              refine zw_4 zr_206_38 rfl ?_
                              refine zw_push zr_206_40 ?_
                              refine zw_41_3 zr_206_41 ?_ ?_
                              · intro h81
                                refine zw_6 zr_206_161 rfl ?_
                                refine zw_push zr_206_163 ?_
                                refine zw_39_4 zr_206_164 zr_206_165 ?_ ?_
                                · intro h82
                                  refine zw_3 zr_206_171 rfl ?_
                                  refine zw_40_4 zr_206_172 ?_ ?_
                                  · intro h83
                                    refine zw_7 zr_206_185 rfl ?_
                                    refine zw_6 zr_206_186 rfl ?_
                                    refine zw_6 zr_206_188 rfl ?_
                                    refine zw_6 zr_206_190 rfl ?_
                                    refine zw_29p (A := 9801) (B := 18) zr_206_192 (by omega) (by omega) (by omega) (by omega) (by decide) ?_
                                    intro x84 hx84a hx84b
                                    refine zw_C zr_206_193 (Or.inl rfl) zm_173 rfl rfl ⟨Nat.le_of_ble_eq_true rfl, Nat.le_of_ble_eq_true rfl, Nat.le_of_ble_eq_true rfl, rfl, by decide⟩ (by omega) (th_173 (d := d - 1) (by omega) hI0 (a0 := x79) (a1 := x84)      (by omega) (by omega) ) ?_
                                    rintro _ m85 ⟨rfl, hIm85, gm85⟩
                                    have hFm85 : zFr W_206 m0 m85 := hF0.trans gm85 rfl
                                    have km85_70_822 : m85 70 822 = f1 := (gm85 70 822 rfl).trans ef1
                                    have km85_70_820 : m85 70 820 = f58 := (gm85 70 820 rfl).trans ef58
                                    have km85_70_821 : m85 70 821 = f76 := (gm85 70 821 rfl).trans ef76
                                    show zW E (d) 206 196 [(2, 69), (0, a0), (0, a1), (1, ((0 + x33) + x62)), (9, 0), (1, ((0 + x34) + x63)), (9, 0), (1, x79), (9, 0), (1, x80), (9, 0), (1, ((0 + f58) + f76)), (9, 0), (0, ((((0 + 1) + 1) + 1) + 1)), (1, x62), (9, 0), (1, x63), (9, 0)] [] m85 Q
                                    refine zw_push zr_206_196 ?_
                                    refine zw_R zr_206_197 (by decide) zm_206 (v := (0, 1)) rfl ?_
                                    rw [← hQ]; exact ⟨_, rfl, by omega, by omega, hIm85, hFm85⟩
                                  · intro h86
                                    refine zw_7 zr_206_175 rfl ?_
                                    refine zw_5 zr_206_176 rfl ?_
                                    refine zw_6 zr_206_177 rfl ?_
                                    refine zw_C zr_206_179 (Or.inl rfl) zm_173 rfl rfl ⟨Nat.le_of_ble_eq_true rfl, Nat.le_of_ble_eq_true rfl, Nat.le_of_ble_eq_true rfl, rfl, by decide⟩ (by omega) (th_173 (d := d - 1) (by omega) hI0 (a0 := ((0 + x33) + x62)) (a1 := ((0 + x34) + x63))      (by omega) (by omega) ) ?_
                                    rintro _ m87 ⟨rfl, hIm87, gm87⟩
                                    have hFm87 : zFr W_206 m0 m87 := hF0.trans gm87 rfl
                                    have km87_70_822 : m87 70 822 = f1 := (gm87 70 822 rfl).trans ef1
                                    have km87_70_820 : m87 70 820 = f58 := (gm87 70 820 rfl).trans ef58
                                    have km87_70_821 : m87 70 821 = f76 := (gm87 70 821 rfl).trans ef76
                                    show zW E (d) 206 182 [(2, 69), (0, a0), (0, a1), (1, ((0 + x33) + x62)), (9, 0), (1, ((0 + x34) + x63)), (9, 0), (1, x79), (9, 0), (1, x80), (9, 0), (1, ((0 + f58) + f76)), (9, 0), (0, ((((0 + 1) + 1) + 1) + 1)), (1, x62), (9, 0), (1, x63), (9, 0)] [] m87 Q
                                    refine zw_42 zr_206_182 ?_
                                    refine zw_push zr_206_196 ?_
                                    refine zw_R zr_206_197 (by decide) zm_206 (v := (0, 1)) rfl ?_
                                    rw [← hQ]; exact ⟨_, rfl, by omega, by omega, hIm87, hFm87⟩
                                · intro h88; omega
                              · intro h89; omega
                    · intro h90
                      refine zw_5 zr_206_93 rfl ?_
                      refine zw_6 zr_206_94 rfl ?_
                      refine zw_27 zr_206_96 (by omega) ?_
                      refine zw_13 (L' := [(2, 69), (0, a0), (0, a1), (1, (0 + x28)), (9, 0), (1, 0), (9, 0), (1, 0), (9, 0), (1, 1), (9, 0), (1, 0), (9, 0), (0, (0 + 1)), (1, x28), (9, 0), (1, x29), (9, 0)]) zr_206_97 (Nat.le_of_ble_eq_true rfl) rfl ?_
                      refine zw_6 zr_206_98 rfl ?_
                      refine zw_6 zr_206_100 rfl ?_
                      refine zw_27 zr_206_102 (by omega) ?_
                      refine zw_14 (L' := [(2, 69), (0, a0), (0, a1), (1, (0 + x28)), (9, 0), (1, (0 + x29)), (9, 0), (1, 0), (9, 0), (1, 1), (9, 0), (1, 0), (9, 0), (0, (0 + 1)), (1, x28), (9, 0), (1, x29), (9, 0)]) zr_206_103 (Nat.le_of_ble_eq_true rfl) rfl ?_
                      refine zw_6 zr_206_105 rfl ?_
                      refine zw_6 zr_206_107 rfl ?_
                      refine zw_29 zr_206_109 (by omega) ?_
                      refine zw_7 zr_206_110 rfl ?_
                      refine zw_46r (s := 70) zr_206_111 rfl rfl rfl rfl ?_
                      refine zw_push zr_206_114 ?_
                      refine zw_4 zr_206_117 rfl ?_
                      refine zw_16 zr_206_119 (by omega) ?_
                      obtain ⟨f91, ef91⟩ : ∃ v, m0 70 819 = v := ⟨_, rfl⟩
                      have bf91 : 1 ≤ m0 70 819 ∧ m0 70 819 ≤ 9 := ib_70_weight hI0 (by omega)
                      rw [ef91] at bf91
                      refine zw_48k (c := 70) (len := 826) zr_206_120 rfl rfl (by omega) (by omega) (show ((818 + (0 + 1)) : Int).toNat = 819 by omega) ef91 ?_
                      refine zw_36 zr_206_121 ?_
                      refine zw_6 zr_206_122 rfl ?_
                      refine zw_29h zr_206_124 ?_
                      intro x92 hx92a hx92b
                      refine zw_6 zr_206_125 rfl ?_
                      refine zw_29 zr_206_127 (by omega) ?_
                      refine zw_27 zr_206_128 (by omega) ?_
                      refine zw_14 (L' := [(2, 69), (0, a0), (0, a1), (1, (0 + x28)), (9, 0), (1, (0 + x29)), (9, 0), (1, ((0 * x29) + (x92 * 1))), (9, 0), (1, 1), (9, 0), (1, 0), (9, 0), (0, (0 + 1)), (1, x28), (9, 0), (1, x29), (9, 0)]) zr_206_129 (Nat.le_of_ble_eq_true rfl) rfl ?_
                      refine zw_6 zr_206_131 rfl ?_
                      refine zw_6 zr_206_133 rfl ?_
                      refine zw_29 zr_206_135 (by omega) ?_
                      refine zw_14 (L' := [(2, 69), (0, a0), (0, a1), (1, (0 + x28)), (9, 0), (1, (0 + x29)), (9, 0), (1, ((0 * x29) + (x92 * 1))), (9, 0), (1, (1 * x29)), (9, 0), (1, 0), (9, 0), (0, (0 + 1)), (1, x28), (9, 0), (1, x29), (9, 0)]) zr_206_136 (Nat.le_of_ble_eq_true rfl) rfl ?_
                      refine zw_6 zr_206_138 rfl ?_
                      refine zw_7 zr_206_140 rfl ?_
                      refine zw_46r (s := 70) zr_206_141 rfl rfl rfl rfl ?_
                      refine zw_push zr_206_144 ?_
                      refine zw_4 zr_206_147 rfl ?_
                      refine zw_16 zr_206_149 (by omega) ?_
                      refine zw_48k (c := 70) (len := 826) zr_206_150 rfl rfl (by omega) (by omega) (show ((818 + (0 + 1)) : Int).toNat = 819 by omega) ef91 ?_
                      refine zw_36 zr_206_151 ?_
                      refine zw_27 zr_206_152 (by omega) ?_
                      refine zw_14 (L' := [(2, 69), (0, a0), (0, a1), (1, (0 + x28)), (9, 0), (1, (0 + x29)), (9, 0), (1, ((0 * x29) + (x92 * 1))), (9, 0), (1, (1 * x29)), (9, 0), (1, (0 + f91)), (9, 0), (0, (0 + 1)), (1, x28), (9, 0), (1, x29), (9, 0)]) zr_206_153 (Nat.le_of_ble_eq_true rfl) rfl ?_
                      refine zw_15 (c := 1) (L' := [(2, 69), (0, a0), (0, a1), (1, (0 + x28)), (9, 0), (1, (0 + x29)), (9, 0), (1, ((0 * x29) + (x92 * 1))), (9, 0), (1, (1 * x29)), (9, 0), (1, (0 + f91)), (9, 0), (0, ((0 + 1) + 1)), (1, x28), (9, 0), (1, x29), (9, 0)]) zr_206_155 rfl (by decide) (by omega) rfl ?_
                      refine zw_42 zr_206_158 ?_
                      refine zw_4 zr_206_38 rfl ?_
                      refine zw_push zr_206_40 ?_
                      refine zw_41_3 zr_206_41 ?_ ?_
                      · intro h93; omega
                      · intro h94
                        refine zw_7 zr_206_44 rfl ?_
                        refine zw_46r (s := 70) zr_206_45 rfl rfl rfl rfl ?_
                        refine zw_push zr_206_48 ?_
                        refine zw_push zr_206_50 ?_
                        refine zw_3 zr_206_52 rfl ?_
                        refine zw_18 zr_206_53 (by omega) ?_
                        refine zw_16 zr_206_54 (by omega) ?_
                        refine zw_push zr_206_55 ?_
                        refine zw_4 zr_206_56 rfl ?_
                        refine zw_18 zr_206_58 (by omega) ?_
                        refine zw_16 zr_206_59 (by omega) ?_
                        refine zw_48 (c := 70) (len := 826) zr_206_60 rfl rfl (by omega) (by omega) ?_
                        intro x95 ex95
                        have bx95 := ib_70_moves hI0 (k := (((10 + (8 * a0)) + (2 * ((0 + 1) + 1)))).toNat) (by omega)
                        rw [← ex95] at bx95
                        clear ex95
                        refine zw_36 zr_206_61 ?_
                        refine zw_14 (L' := [(2, 69), (0, a0), (0, a1), (1, (0 + x28)), (9, 0), (1, (0 + x29)), (9, 0), (1, ((0 * x29) + (x92 * 1))), (9, 0), (1, (1 * x29)), (9, 0), (1, (0 + f91)), (9, 0), (0, ((0 + 1) + 1)), (1, x95), (9, 0), (1, x29), (9, 0)]) zr_206_62 (Nat.le_of_ble_eq_true rfl) rfl ?_
                        refine zw_7 zr_206_64 rfl ?_
                        refine zw_46r (s := 70) zr_206_65 rfl rfl rfl rfl ?_
                        refine zw_push zr_206_68 ?_
                        refine zw_push zr_206_70 ?_
                        refine zw_3 zr_206_72 rfl ?_
                        refine zw_18 zr_206_73 (by omega) ?_
                        refine zw_16 zr_206_74 (by omega) ?_
                        refine zw_push zr_206_75 ?_
                        refine zw_4 zr_206_76 rfl ?_
                        refine zw_18 zr_206_78 (by omega) ?_
                        refine zw_16 zr_206_79 (by omega) ?_
                        refine zw_push zr_206_80 ?_
                        refine zw_16 zr_206_81 (by omega) ?_
                        refine zw_48 (c := 70) (len := 826) zr_206_82 rfl rfl (by omega) (by omega) ?_
                        intro x96 ex96
                        have bx96 := ib_70_moves hI0 (k := ((((10 + (8 * a0)) + (2 * ((0 + 1) + 1))) + 1)).toNat) (by omega)
                        rw [← ex96] at bx96
                        clear ex96
                        refine zw_36 zr_206_83 ?_
                        refine zw_14 (L' := [(2, 69), (0, a0), (0, a1), (1, (0 + x28)), (9, 0), (1, (0 + x29)), (9, 0), (1, ((0 * x29) + (x92 * 1))), (9, 0), (1, (1 * x29)), (9, 0), (1, (0 + f91)), (9, 0), (0, ((0 + 1) + 1)), (1, x95), (9, 0), (1, x96), (9, 0)]) zr_206_84 (Nat.le_of_ble_eq_true rfl) rfl ?_
                        refine zw_6 zr_206_86 rfl ?_
                        refine zw_push zr_206_88 ?_
                        refine zw_39_5 zr_206_89 zr_206_90 ?_ ?_
                        · intro h97
                          refine zw_15 (c := 1) (L' := [(2, 69), (0, a0), (0, a1), (1, (0 + x28)), (9, 0), (1, (0 + x29)), (9, 0), (1, ((0 * x29) + (x92 * 1))), (9, 0), (1, (1 * x29)), (9, 0), (1, (0 + f91)), (9, 0), (0, (((0 + 1) + 1) + 1)), (1, x95), (9, 0), (1, x96), (9, 0)]) zr_206_155 rfl (by decide) (by omega) rfl ?_
                          refine zw_42 zr_206_158 ?_
                          refine zw_4 zr_206_38 rfl ?_
                          refine zw_push zr_206_40 ?_
                          refine zw_41_3 zr_206_41 ?_ ?_
                          · intro h98; omega
                          · intro h99
                            refine zw_7 zr_206_44 rfl ?_
                            refine zw_46r (s := 70) zr_206_45 rfl rfl rfl rfl ?_
                            refine zw_push zr_206_48 ?_
                            refine zw_push zr_206_50 ?_
                            refine zw_3 zr_206_52 rfl ?_
                            refine zw_18 zr_206_53 (by omega) ?_
                            refine zw_16 zr_206_54 (by omega) ?_
                            refine zw_push zr_206_55 ?_
                            refine zw_4 zr_206_56 rfl ?_
                            refine zw_18 zr_206_58 (by omega) ?_
                            refine zw_16 zr_206_59 (by omega) ?_
                            refine zw_48 (c := 70) (len := 826) zr_206_60 rfl rfl (by omega) (by omega) ?_
                            intro x100 ex100
                            have bx100 := ib_70_moves hI0 (k := (((10 + (8 * a0)) + (2 * (((0 + 1) + 1) + 1)))).toNat) (by omega)
                            rw [← ex100] at bx100
                            clear ex100
                            refine zw_36 zr_206_61 ?_
                            refine zw_14 (L' := [(2, 69), (0, a0), (0, a1), (1, (0 + x28)), (9, 0), (1, (0 + x29)), (9, 0), (1, ((0 * x29) + (x92 * 1))), (9, 0), (1, (1 * x29)), (9, 0), (1, (0 + f91)), (9, 0), (0, (((0 + 1) + 1) + 1)), (1, x100), (9, 0), (1, x96), (9, 0)]) zr_206_62 (Nat.le_of_ble_eq_true rfl) rfl ?_
                            refine zw_7 zr_206_64 rfl ?_
                            refine zw_46r (s := 70) zr_206_65 rfl rfl rfl rfl ?_
                            refine zw_push zr_206_68 ?_
                            refine zw_push zr_206_70 ?_
                            refine zw_3 zr_206_72 rfl ?_
                            refine zw_18 zr_206_73 (by omega) ?_
                            refine zw_16 zr_206_74 (by omega) ?_
                            refine zw_push zr_206_75 ?_
                            refine zw_4 zr_206_76 rfl ?_
                            refine zw_18 zr_206_78 (by omega) ?_
                            refine zw_16 zr_206_79 (by omega) ?_
                            refine zw_push zr_206_80 ?_
                            refine zw_16 zr_206_81 (by omega) ?_
                            refine zw_48 (c := 70) (len := 826) zr_206_82 rfl rfl (by omega) (by omega) ?_
                            intro x101 ex101
                            have bx101 := ib_70_moves hI0 (k := ((((10 + (8 * a0)) + (2 * (((0 + 1) + 1) + 1))) + 1)).toNat) (by omega)
                            rw [← ex101] at bx101
                            clear ex101
                            refine zw_36 zr_206_83 ?_
                            refine zw_14 (L' := [(2, 69), (0, a0), (0, a1), (1, (0 + x28)), (9, 0), (1, (0 + x29)), (9, 0), (1, ((0 * x29) + (x92 * 1))), (9, 0), (1, (1 * x29)), (9, 0), (1, (0 + f91)), (9, 0), (0, (((0 + 1) + 1) + 1)), (1, x100), (9, 0), (1, x101), (9, 0)]) zr_206_84 (Nat.le_of_ble_eq_true rfl) rfl ?_
                            refine zw_6 zr_206_86 rfl ?_
                            refine zw_push zr_206_88 ?_
                            refine zw_39_5 zr_206_89 zr_206_90 ?_ ?_
                            · intro h102
                              refine zw_15 (c := 1) (L' := [(2, 69), (0, a0), (0, a1), (1, (0 + x28)), (9, 0), (1, (0 + x29)), (9, 0), (1, ((0 * x29) + (x92 * 1))), (9, 0), (1, (1 * x29)), (9, 0), (1, (0 + f91)), (9, 0), (0, ((((0 + 1) + 1) + 1) + 1)), (1, x100), (9, 0), (1, x101), (9, 0)]) zr_206_155 rfl (by decide) (by omega) rfl ?_
                              refine zw_42 zr_206_158 ?_
                              refine zw_4 zr_206_38 rfl ?_
                              refine zw_push zr_206_40 ?_
                              refine zw_41_3 zr_206_41 ?_ ?_
                              · intro h103
                                refine zw_6 zr_206_161 rfl ?_
                                refine zw_push zr_206_163 ?_
                                refine zw_39_4 zr_206_164 zr_206_165 ?_ ?_
                                · intro h104
                                  refine zw_3 zr_206_171 rfl ?_
                                  refine zw_40_4 zr_206_172 ?_ ?_
                                  · intro h105
                                    refine zw_7 zr_206_185 rfl ?_
                                    refine zw_6 zr_206_186 rfl ?_
                                    refine zw_6 zr_206_188 rfl ?_
                                    refine zw_6 zr_206_190 rfl ?_
                                    refine zw_29p (A := 99) (B := 9) zr_206_192 (by omega) (by omega) (by omega) (by omega) (by decide) ?_
                                    intro x106 hx106a hx106b
                                    refine zw_C zr_206_193 (Or.inl rfl) zm_173 rfl rfl ⟨Nat.le_of_ble_eq_true rfl, Nat.le_of_ble_eq_true rfl, Nat.le_of_ble_eq_true rfl, rfl, by decide⟩ (by omega) (th_173 (d := d - 1) (by omega) hI0 (a0 := ((0 * x29) + (x92 * 1))) (a1 := x106)      (by omega) (by omega) ) ?_
                                    rintro _ m107 ⟨rfl, hIm107, gm107⟩
                                    have hFm107 : zFr W_206 m0 m107 := hF0.trans gm107 rfl
                                    have km107_70_822 : m107 70 822 = f1 := (gm107 70 822 rfl).trans ef1
                                    have km107_70_819 : m107 70 819 = f91 := (gm107 70 819 rfl).trans ef91
                                    show zW E (d) 206 196 [(2, 69), (0, a0), (0, a1), (1, (0 + x28)), (9, 0), (1, (0 + x29)), (9, 0), (1, ((0 * x29) + (x92 * 1))), (9, 0), (1, (1 * x29)), (9, 0), (1, (0 + f91)), (9, 0), (0, ((((0 + 1) + 1) + 1) + 1)), (1, x100), (9, 0), (1, x101), (9, 0)] [] m107 Q
                                    refine zw_push zr_206_196 ?_
                                    refine zw_R zr_206_197 (by decide) zm_206 (v := (0, 1)) rfl ?_
                                    rw [← hQ]; exact ⟨_, rfl, by omega, by omega, hIm107, hFm107⟩
                                  · intro h108
                                    refine zw_7 zr_206_175 rfl ?_
                                    refine zw_5 zr_206_176 rfl ?_
                                    refine zw_6 zr_206_177 rfl ?_
                                    refine zw_C zr_206_179 (Or.inl rfl) zm_173 rfl rfl ⟨Nat.le_of_ble_eq_true rfl, Nat.le_of_ble_eq_true rfl, Nat.le_of_ble_eq_true rfl, rfl, by decide⟩ (by omega) (th_173 (d := d - 1) (by omega) hI0 (a0 := (0 + x28)) (a1 := (0 + x29))      (by omega) (by omega) ) ?_
                                    rintro _ m109 ⟨rfl, hIm109, gm109⟩
                                    have hFm109 : zFr W_206 m0 m109 := hF0.trans gm109 rfl
                                    have km109_70_822 : m109 70 822 = f1 := (gm109 70 822 rfl).trans ef1
                                    have km109_70_819 : m109 70 819 = f91 := (gm109 70 819 rfl).trans ef91
                                    show zW E (d) 206 182 [(2, 69), (0, a0), (0, a1), (1, (0 + x28)), (9, 0), (1, (0 + x29)), (9, 0), (1, ((0 * x29) + (x92 * 1))), (9, 0), (1, (1 * x29)), (9, 0), (1, (0 + f91)), (9, 0), (0, ((((0 + 1) + 1) + 1) + 1)), (1, x100), (9, 0), (1, x101), (9, 0)] [] m109 Q
                                    refine zw_42 zr_206_182 ?_
                                    refine zw_push zr_206_196 ?_
                                    refine zw_R zr_206_197 (by decide) zm_206 (v := (0, 1)) rfl ?_
                                    rw [← hQ]; exact ⟨_, rfl, by omega, by omega, hIm109, hFm109⟩
                                · intro h110; omega
                              · intro h111; omega
                            · intro h112
                              refine zw_5 zr_206_93 rfl ?_
                              refine zw_6 zr_206_94 rfl ?_
                              refine zw_27 zr_206_96 (by omega) ?_
                              refine zw_13 (L' := [(2, 69), (0, a0), (0, a1), (1, ((0 + x28) + x100)), (9, 0), (1, (0 + x29)), (9, 0), (1, ((0 * x29) + (x92 * 1))), (9, 0), (1, (1 * x29)), (9, 0), (1, (0 + f91)), (9, 0), (0, (((0 + 1) + 1) + 1)), (1, x100), (9, 0), (1, x101), (9, 0)]) zr_206_97 (Nat.le_of_ble_eq_true rfl) rfl ?_
                              refine zw_6 zr_206_98 rfl ?_
                              refine zw_6 zr_206_100 rfl ?_
                              refine zw_27 zr_206_102 (by omega) ?_
                              refine zw_14 (L' := [(2, 69), (0, a0), (0, a1), (1, ((0 + x28) + x100)), (9, 0), (1, ((0 + x29) + x101)), (9, 0), (1, ((0 * x29) + (x92 * 1))), (9, 0), (1, (1 * x29)), (9, 0), (1, (0 + f91)), (9, 0), (0, (((0 + 1) + 1) + 1)), (1, x100), (9, 0), (1, x101), (9, 0)]) zr_206_103 (Nat.le_of_ble_eq_true rfl) rfl ?_
                              refine zw_6 zr_206_105 rfl ?_
                              refine zw_6 zr_206_107 rfl ?_
                              refine zw_29h zr_206_109 ?_
                              intro x113 hx113a hx113b
                              refine zw_7 zr_206_110 rfl ?_
                              refine zw_46r (s := 70) zr_206_111 rfl rfl rfl rfl ?_
                              refine zw_push zr_206_114 ?_
                              refine zw_4 zr_206_117 rfl ?_
                              refine zw_16 zr_206_119 (by omega) ?_
                              obtain ⟨f114, ef114⟩ : ∃ v, m0 70 821 = v := ⟨_, rfl⟩
                              have bf114 : 1 ≤ m0 70 821 ∧ m0 70 821 ≤ 9 := ib_70_weight hI0 (by omega)
                              rw [ef114] at bf114
                              refine zw_48k (c := 70) (len := 826) zr_206_120 rfl rfl (by omega) (by omega) (show ((818 + (((0 + 1) + 1) + 1)) : Int).toNat = 821 by omega) ef114 ?_
                              refine zw_36 zr_206_121 ?_
                              refine zw_6 zr_206_122 rfl ?_
                              refine zw_29h zr_206_124 ?_
                              intro x115 hx115a hx115b
                              refine zw_6 zr_206_125 rfl ?_
                              refine zw_29h zr_206_127 ?_
                              intro x116 hx116a hx116b
                              refine zw_27h zr_206_128 ?_
                              intro x117 hx117a hx117b
                              refine zw_14 (L' := [(2, 69), (0, a0), (0, a1), (1, ((0 + x28) + x100)), (9, 0), (1, ((0 + x29) + x101)), (9, 0), (1, x117), (9, 0), (1, (1 * x29)), (9, 0), (1, (0 + f91)), (9, 0), (0, (((0 + 1) + 1) + 1)), (1, x100), (9, 0), (1, x101), (9, 0)]) zr_206_129 (Nat.le_of_ble_eq_true rfl) rfl ?_
                              refine zw_6 zr_206_131 rfl ?_
                              refine zw_6 zr_206_133 rfl ?_
                              refine zw_29p (A := 99) (B := 99) zr_206_135 (by omega) (by omega) (by omega) (by omega) (by decide) ?_
                              intro x118 hx118a hx118b
                              refine zw_14 (L' := [(2, 69), (0, a0), (0, a1), (1, ((0 + x28) + x100)), (9, 0), (1, ((0 + x29) + x101)), (9, 0), (1, x117), (9, 0), (1, x118), (9, 0), (1, (0 + f91)), (9, 0), (0, (((0 + 1) + 1) + 1)), (1, x100), (9, 0), (1, x101), (9, 0)]) zr_206_136 (Nat.le_of_ble_eq_true rfl) rfl ?_
                              refine zw_6 zr_206_138 rfl ?_
                              refine zw_7 zr_206_140 rfl ?_
                              refine zw_46r (s := 70) zr_206_141 rfl rfl rfl rfl ?_
                              refine zw_push zr_206_144 ?_
                              refine zw_4 zr_206_147 rfl ?_
                              refine zw_16 zr_206_149 (by omega) ?_
                              refine zw_48k (c := 70) (len := 826) zr_206_150 rfl rfl (by omega) (by omega) (show ((818 + (((0 + 1) + 1) + 1)) : Int).toNat = 821 by omega) ef114 ?_
                              refine zw_36 zr_206_151 ?_
                              refine zw_27 zr_206_152 (by omega) ?_
                              refine zw_14 (L' := [(2, 69), (0, a0), (0, a1), (1, ((0 + x28) + x100)), (9, 0), (1, ((0 + x29) + x101)), (9, 0), (1, x117), (9, 0), (1, x118), (9, 0), (1, ((0 + f91) + f114)), (9, 0), (0, (((0 + 1) + 1) + 1)), (1, x100), (9, 0), (1, x101), (9, 0)]) zr_206_153 (Nat.le_of_ble_eq_true rfl) rfl ?_
                              refine zw_15 (c := 1) (L' := [(2, 69), (0, a0), (0, a1), (1, ((0 + x28) + x100)), (9, 0), (1, ((0 + x29) + x101)), (9, 0), (1, x117), (9, 0), (1, x118), (9, 0), (1, ((0 + f91) + f114)), (9, 0), (0, ((((0 + 1) + 1) + 1) + 1)), (1, x100), (9, 0), (1, x101), (9, 0)]) zr_206_155 rfl (by decide) (by omega) rfl ?_
                              refine zw_42 zr_206_158 ?_
                              refine zw_4 zr_206_38 rfl ?_
                              refine zw_push zr_206_40 ?_
                              refine zw_41_3 zr_206_41 ?_ ?_
                              · intro h119
                                refine zw_6 zr_206_161 rfl ?_
                                refine zw_push zr_206_163 ?_
                                refine zw_39_4 zr_206_164 zr_206_165 ?_ ?_
                                · intro h120
                                  refine zw_3 zr_206_171 rfl ?_
                                  refine zw_40_4 zr_206_172 ?_ ?_
                                  · intro h121
                                    refine zw_7 zr_206_185 rfl ?_
                                    refine zw_6 zr_206_186 rfl ?_
                                    refine zw_6 zr_206_188 rfl ?_
                                    refine zw_6 zr_206_190 rfl ?_
                                    refine zw_29p (A := 9801) (B := 18) zr_206_192 (by omega) (by omega) (by omega) (by omega) (by decide) ?_
                                    intro x122 hx122a hx122b
                                    refine zw_C zr_206_193 (Or.inl rfl) zm_173 rfl rfl ⟨Nat.le_of_ble_eq_true rfl, Nat.le_of_ble_eq_true rfl, Nat.le_of_ble_eq_true rfl, rfl, by decide⟩ (by omega) (th_173 (d := d - 1) (by omega) hI0 (a0 := x117) (a1 := x122)      (by omega) (by omega) ) ?_
                                    rintro _ m123 ⟨rfl, hIm123, gm123⟩
                                    have hFm123 : zFr W_206 m0 m123 := hF0.trans gm123 rfl
                                    have km123_70_822 : m123 70 822 = f1 := (gm123 70 822 rfl).trans ef1
                                    have km123_70_819 : m123 70 819 = f91 := (gm123 70 819 rfl).trans ef91
                                    have km123_70_821 : m123 70 821 = f114 := (gm123 70 821 rfl).trans ef114
                                    show zW E (d) 206 196 [(2, 69), (0, a0), (0, a1), (1, ((0 + x28) + x100)), (9, 0), (1, ((0 + x29) + x101)), (9, 0), (1, x117), (9, 0), (1, x118), (9, 0), (1, ((0 + f91) + f114)), (9, 0), (0, ((((0 + 1) + 1) + 1) + 1)), (1, x100), (9, 0), (1, x101), (9, 0)] [] m123 Q
                                    refine zw_push zr_206_196 ?_
                                    refine zw_R zr_206_197 (by decide) zm_206 (v := (0, 1)) rfl ?_
                                    rw [← hQ]; exact ⟨_, rfl, by omega, by omega, hIm123, hFm123⟩
                                  · intro h124
                                    refine zw_7 zr_206_175 rfl ?_
                                    refine zw_5 zr_206_176 rfl ?_
                                    refine zw_6 zr_206_177 rfl ?_
                                    refine zw_C zr_206_179 (Or.inl rfl) zm_173 rfl rfl ⟨Nat.le_of_ble_eq_true rfl, Nat.le_of_ble_eq_true rfl, Nat.le_of_ble_eq_true rfl, rfl, by decide⟩ (by omega) (th_173 (d := d - 1) (by omega) hI0 (a0 := ((0 + x28) + x100)) (a1 := ((0 + x29) + x101))      (by omega) (by omega) ) ?_
                                    rintro _ m125 ⟨rfl, hIm125, gm125⟩
                                    have hFm125 : zFr W_206 m0 m125 := hF0.trans gm125 rfl
                                    have km125_70_822 : m125 70 822 = f1 := (gm125 70 822 rfl).trans ef1
                                    have km125_70_819 : m125 70 819 = f91 := (gm125 70 819 rfl).trans ef91
                                    have km125_70_821 : m125 70 821 = f114 := (gm125 70 821 rfl).trans ef114
                                    show zW E (d) 206 182 [(2, 69), (0, a0), (0, a1), (1, ((0 + x28) + x100)), (9, 0), (1, ((0 + x29) + x101)), (9, 0), (1, x117), (9, 0), (1, x118), (9, 0), (1, ((0 + f91) + f114)), (9, 0), (0, ((((0 + 1) + 1) + 1) + 1)), (1, x100), (9, 0), (1, x101), (9, 0)] [] m125 Q
                                    refine zw_42 zr_206_182 ?_
                                    refine zw_push zr_206_196 ?_
                                    refine zw_R zr_206_197 (by decide) zm_206 (v := (0, 1)) rfl ?_
                                    rw [← hQ]; exact ⟨_, rfl, by omega, by omega, hIm125, hFm125⟩
                                · intro h126; omega
                              · intro h127; omega
                        · intro h128
                          refine zw_5 zr_206_93 rfl ?_
                          refine zw_6 zr_206_94 rfl ?_
                          refine zw_27 zr_206_96 (by omega) ?_
                          refine zw_13 (L' := [(2, 69), (0, a0), (0, a1), (1, ((0 + x28) + x95)), (9, 0), (1, (0 + x29)), (9, 0), (1, ((0 * x29) + (x92 * 1))), (9, 0), (1, (1 * x29)), (9, 0), (1, (0 + f91)), (9, 0), (0, ((0 + 1) + 1)), (1, x95), (9, 0), (1, x96), (9, 0)]) zr_206_97 (Nat.le_of_ble_eq_true rfl) rfl ?_
                          refine zw_6 zr_206_98 rfl ?_
                          refine zw_6 zr_206_100 rfl ?_
                          refine zw_27 zr_206_102 (by omega) ?_
                          refine zw_14 (L' := [(2, 69), (0, a0), (0, a1), (1, ((0 + x28) + x95)), (9, 0), (1, ((0 + x29) + x96)), (9, 0), (1, ((0 * x29) + (x92 * 1))), (9, 0), (1, (1 * x29)), (9, 0), (1, (0 + f91)), (9, 0), (0, ((0 + 1) + 1)), (1, x95), (9, 0), (1, x96), (9, 0)]) zr_206_103 (Nat.le_of_ble_eq_true rfl) rfl ?_
                          refine zw_6 zr_206_105 rfl ?_
                          refine zw_6 zr_206_107 rfl ?_
                          refine zw_29h zr_206_109 ?_
                          intro x129 hx129a hx129b
                          refine zw_7 zr_206_110 rfl ?_
                          refine zw_46r (s := 70) zr_206_111 rfl rfl rfl rfl ?_
                          refine zw_push zr_206_114 ?_
                          refine zw_4 zr_206_117 rfl ?_
                          refine zw_16 zr_206_119 (by omega) ?_
                          obtain ⟨f130, ef130⟩ : ∃ v, m0 70 820 = v := ⟨_, rfl⟩
                          have bf130 : 1 ≤ m0 70 820 ∧ m0 70 820 ≤ 9 := ib_70_weight hI0 (by omega)
                          rw [ef130] at bf130
                          refine zw_48k (c := 70) (len := 826) zr_206_120 rfl rfl (by omega) (by omega) (show ((818 + ((0 + 1) + 1)) : Int).toNat = 820 by omega) ef130 ?_
                          refine zw_36 zr_206_121 ?_
                          refine zw_6 zr_206_122 rfl ?_
                          refine zw_29h zr_206_124 ?_
                          intro x131 hx131a hx131b
                          refine zw_6 zr_206_125 rfl ?_
                          refine zw_29h zr_206_127 ?_
                          intro x132 hx132a hx132b
                          refine zw_27h zr_206_128 ?_
                          intro x133 hx133a hx133b
                          refine zw_14 (L' := [(2, 69), (0, a0), (0, a1), (1, ((0 + x28) + x95)), (9, 0), (1, ((0 + x29) + x96)), (9, 0), (1, x133), (9, 0), (1, (1 * x29)), (9, 0), (1, (0 + f91)), (9, 0), (0, ((0 + 1) + 1)), (1, x95), (9, 0), (1, x96), (9, 0)]) zr_206_129 (Nat.le_of_ble_eq_true rfl) rfl ?_
                          refine zw_6 zr_206_131 rfl ?_
                          refine zw_6 zr_206_133 rfl ?_
                          refine zw_29p (A := 99) (B := 99) zr_206_135 (by omega) (by omega) (by omega) (by omega) (by decide) ?_
                          intro x134 hx134a hx134b
                          refine zw_14 (L' := [(2, 69), (0, a0), (0, a1), (1, ((0 + x28) + x95)), (9, 0), (1, ((0 + x29) + x96)), (9, 0), (1, x133), (9, 0), (1, x134), (9, 0), (1, (0 + f91)), (9, 0), (0, ((0 + 1) + 1)), (1, x95), (9, 0), (1, x96), (9, 0)]) zr_206_136 (Nat.le_of_ble_eq_true rfl) rfl ?_
                          refine zw_6 zr_206_138 rfl ?_
                          refine zw_7 zr_206_140 rfl ?_
                          refine zw_46r (s := 70) zr_206_141 rfl rfl rfl rfl ?_
                          refine zw_push zr_206_144 ?_
                          refine zw_4 zr_206_147 rfl ?_
                          refine zw_16 zr_206_149 (by omega) ?_
                          refine zw_48k (c := 70) (len := 826) zr_206_150 rfl rfl (by omega) (by omega) (show ((818 + ((0 + 1) + 1)) : Int).toNat = 820 by omega) ef130 ?_
                          refine zw_36 zr_206_151 ?_
                          refine zw_27 zr_206_152 (by omega) ?_
                          refine zw_14 (L' := [(2, 69), (0, a0), (0, a1), (1, ((0 + x28) + x95)), (9, 0), (1, ((0 + x29) + x96)), (9, 0), (1, x133), (9, 0), (1, x134), (9, 0), (1, ((0 + f91) + f130)), (9, 0), (0, ((0 + 1) + 1)), (1, x95), (9, 0), (1, x96), (9, 0)]) zr_206_153 (Nat.le_of_ble_eq_true rfl) rfl ?_
                          refine zw_15 (c := 1) (L' := [(2, 69), (0, a0), (0, a1), (1, ((0 + x28) + x95)), (9, 0), (1, ((0 + x29) + x96)), (9, 0), (1, x133), (9, 0), (1, x134), (9, 0), (1, ((0 + f91) + f130)), (9, 0), (0, (((0 + 1) + 1) + 1)), (1, x95), (9, 0), (1, x96), (9, 0)]) zr_206_155 rfl (by decide) (by omega) rfl ?_
                          refine zw_42 zr_206_158 ?_
                          refine zw_4 zr_206_38 rfl ?_
                          refine zw_push zr_206_40 ?_
                          refine zw_41_3 zr_206_41 ?_ ?_
                          · intro h135; omega
                          · intro h136
                            refine zw_7 zr_206_44 rfl ?_
                            refine zw_46r (s := 70) zr_206_45 rfl rfl rfl rfl ?_
                            refine zw_push zr_206_48 ?_
                            refine zw_push zr_206_50 ?_
                            refine zw_3 zr_206_52 rfl ?_
                            refine zw_18 zr_206_53 (by omega) ?_
                            refine zw_16 zr_206_54 (by omega) ?_
                            refine zw_push zr_206_55 ?_
                            refine zw_4 zr_206_56 rfl ?_
                            refine zw_18 zr_206_58 (by omega) ?_
                            refine zw_16 zr_206_59 (by omega) ?_
                            refine zw_48 (c := 70) (len := 826) zr_206_60 rfl rfl (by omega) (by omega) ?_
                            intro x137 ex137
                            have bx137 := ib_70_moves hI0 (k := (((10 + (8 * a0)) + (2 * (((0 + 1) + 1) + 1)))).toNat) (by omega)
                            rw [← ex137] at bx137
                            clear ex137
                            refine zw_36 zr_206_61 ?_
                            refine zw_14 (L' := [(2, 69), (0, a0), (0, a1), (1, ((0 + x28) + x95)), (9, 0), (1, ((0 + x29) + x96)), (9, 0), (1, x133), (9, 0), (1, x134), (9, 0), (1, ((0 + f91) + f130)), (9, 0), (0, (((0 + 1) + 1) + 1)), (1, x137), (9, 0), (1, x96), (9, 0)]) zr_206_62 (Nat.le_of_ble_eq_true rfl) rfl ?_
                            refine zw_7 zr_206_64 rfl ?_
                            refine zw_46r (s := 70) zr_206_65 rfl rfl rfl rfl ?_
                            refine zw_push zr_206_68 ?_
                            refine zw_push zr_206_70 ?_
                            refine zw_3 zr_206_72 rfl ?_
                            refine zw_18 zr_206_73 (by omega) ?_
                            refine zw_16 zr_206_74 (by omega) ?_
                            refine zw_push zr_206_75 ?_
                            refine zw_4 zr_206_76 rfl ?_
                            refine zw_18 zr_206_78 (by omega) ?_
                            refine zw_16 zr_206_79 (by omega) ?_
                            refine zw_push zr_206_80 ?_
                            refine zw_16 zr_206_81 (by omega) ?_
                            refine zw_48 (c := 70) (len := 826) zr_206_82 rfl rfl (by omega) (by omega) ?_
                            intro x138 ex138
                            have bx138 := ib_70_moves hI0 (k := ((((10 + (8 * a0)) + (2 * (((0 + 1) + 1) + 1))) + 1)).toNat) (by omega)
                            rw [← ex138] at bx138
                            clear ex138
                            refine zw_36 zr_206_83 ?_
                            refine zw_14 (L' := [(2, 69), (0, a0), (0, a1), (1, ((0 + x28) + x95)), (9, 0), (1, ((0 + x29) + x96)), (9, 0), (1, x133), (9, 0), (1, x134), (9, 0), (1, ((0 + f91) + f130)), (9, 0), (0, (((0 + 1) + 1) + 1)), (1, x137), (9, 0), (1, x138), (9, 0)]) zr_206_84 (Nat.le_of_ble_eq_true rfl) rfl ?_
                            refine zw_6 zr_206_86 rfl ?_
                            refine zw_push zr_206_88 ?_
                            refine zw_39_5 zr_206_89 zr_206_90 ?_ ?_
                            · intro h139
                              refine zw_15 (c := 1) (L' := [(2, 69), (0, a0), (0, a1), (1, ((0 + x28) + x95)), (9, 0), (1, ((0 + x29) + x96)), (9, 0), (1, x133), (9, 0), (1, x134), (9, 0), (1, ((0 + f91) + f130)), (9, 0), (0, ((((0 + 1) + 1) + 1) + 1)), (1, x137), (9, 0), (1, x138), (9, 0)]) zr_206_155 rfl (by decide) (by omega) rfl ?_
                              refine zw_42 zr_206_158 ?_
                              refine zw_4 zr_206_38 rfl ?_
                              refine zw_push zr_206_40 ?_
                              refine zw_41_3 zr_206_41 ?_ ?_
                              · intro h140
                                refine zw_6 zr_206_161 rfl ?_
                                refine zw_push zr_206_163 ?_
                                refine zw_39_4 zr_206_164 zr_206_165 ?_ ?_
                                · intro h141
                                  refine zw_3 zr_206_171 rfl ?_
                                  refine zw_40_4 zr_206_172 ?_ ?_
                                  · intro h142
                                    refine zw_7 zr_206_185 rfl ?_
                                    refine zw_6 zr_206_186 rfl ?_
                                    refine zw_6 zr_206_188 rfl ?_
                                    refine zw_6 zr_206_190 rfl ?_
                                    refine zw_29p (A := 9801) (B := 18) zr_206_192 (by omega) (by omega) (by omega) (by omega) (by decide) ?_
                                    intro x143 hx143a hx143b
                                    refine zw_C zr_206_193 (Or.inl rfl) zm_173 rfl rfl ⟨Nat.le_of_ble_eq_true rfl, Nat.le_of_ble_eq_true rfl, Nat.le_of_ble_eq_true rfl, rfl, by decide⟩ (by omega) (th_173 (d := d - 1) (by omega) hI0 (a0 := x133) (a1 := x143)      (by omega) (by omega) ) ?_
                                    rintro _ m144 ⟨rfl, hIm144, gm144⟩
                                    have hFm144 : zFr W_206 m0 m144 := hF0.trans gm144 rfl
                                    have km144_70_822 : m144 70 822 = f1 := (gm144 70 822 rfl).trans ef1
                                    have km144_70_819 : m144 70 819 = f91 := (gm144 70 819 rfl).trans ef91
                                    have km144_70_820 : m144 70 820 = f130 := (gm144 70 820 rfl).trans ef130
                                    show zW E (d) 206 196 [(2, 69), (0, a0), (0, a1), (1, ((0 + x28) + x95)), (9, 0), (1, ((0 + x29) + x96)), (9, 0), (1, x133), (9, 0), (1, x134), (9, 0), (1, ((0 + f91) + f130)), (9, 0), (0, ((((0 + 1) + 1) + 1) + 1)), (1, x137), (9, 0), (1, x138), (9, 0)] [] m144 Q
                                    refine zw_push zr_206_196 ?_
                                    refine zw_R zr_206_197 (by decide) zm_206 (v := (0, 1)) rfl ?_
                                    rw [← hQ]; exact ⟨_, rfl, by omega, by omega, hIm144, hFm144⟩
                                  · intro h145
                                    refine zw_7 zr_206_175 rfl ?_
                                    refine zw_5 zr_206_176 rfl ?_
                                    refine zw_6 zr_206_177 rfl ?_
                                    refine zw_C zr_206_179 (Or.inl rfl) zm_173 rfl rfl ⟨Nat.le_of_ble_eq_true rfl, Nat.le_of_ble_eq_true rfl, Nat.le_of_ble_eq_true rfl, rfl, by decide⟩ (by omega) (th_173 (d := d - 1) (by omega) hI0 (a0 := ((0 + x28) + x95)) (a1 := ((0 + x29) + x96))      (by omega) (by omega) ) ?_
                                    rintro _ m146 ⟨rfl, hIm146, gm146⟩
                                    have hFm146 : zFr W_206 m0 m146 := hF0.trans gm146 rfl
                                    have km146_70_822 : m146 70 822 = f1 := (gm146 70 822 rfl).trans ef1
                                    have km146_70_819 : m146 70 819 = f91 := (gm146 70 819 rfl).trans ef91
                                    have km146_70_820 : m146 70 820 = f130 := (gm146 70 820 rfl).trans ef130
                                    show zW E (d) 206 182 [(2, 69), (0, a0), (0, a1), (1, ((0 + x28) + x95)), (9, 0), (1, ((0 + x29) + x96)), (9, 0), (1, x133), (9, 0), (1, x134), (9, 0), (1, ((0 + f91) + f130)), (9, 0), (0, ((((0 + 1) + 1) + 1) + 1)), (1, x137), (9, 0), (1, x138), (9, 0)] [] m146 Q
                                    refine zw_42 zr_206_182 ?_
                                    refine zw_push zr_206_196 ?_
                                    refine zw_R zr_206_197 (by decide) zm_206 (v := (0, 1)) rfl ?_
                                    rw [← hQ]; exact ⟨_, rfl, by omega, by omega, hIm146, hFm146⟩
                                · intro h147; omega
                              · intro h148; omega
                            · intro h149
                              refine zw_5 zr_206_93 rfl ?_
                              refine zw_6 zr_206_94 rfl ?_
                              refine zw_27 zr_206_96 (by omega) ?_
                              refine zw_13 (L' := [(2, 69), (0, a0), (0, a1), (1, (((0 + x28) + x95) + x137)), (9, 0), (1, ((0 + x29) + x96)), (9, 0), (1, x133), (9, 0), (1, x134), (9, 0), (1, ((0 + f91) + f130)), (9, 0), (0, (((0 + 1) + 1) + 1)), (1, x137), (9, 0), (1, x138), (9, 0)]) zr_206_97 (Nat.le_of_ble_eq_true rfl) rfl ?_
                              refine zw_6 zr_206_98 rfl ?_
                              refine zw_6 zr_206_100 rfl ?_
                              refine zw_27 zr_206_102 (by omega) ?_
                              refine zw_14 (L' := [(2, 69), (0, a0), (0, a1), (1, (((0 + x28) + x95) + x137)), (9, 0), (1, (((0 + x29) + x96) + x138)), (9, 0), (1, x133), (9, 0), (1, x134), (9, 0), (1, ((0 + f91) + f130)), (9, 0), (0, (((0 + 1) + 1) + 1)), (1, x137), (9, 0), (1, x138), (9, 0)]) zr_206_103 (Nat.le_of_ble_eq_true rfl) rfl ?_
                              refine zw_6 zr_206_105 rfl ?_
                              refine zw_6 zr_206_107 rfl ?_
                              refine zw_29h zr_206_109 ?_
                              intro x150 hx150a hx150b
                              refine zw_7 zr_206_110 rfl ?_
                              refine zw_46r (s := 70) zr_206_111 rfl rfl rfl rfl ?_
                              refine zw_push zr_206_114 ?_
                              refine zw_4 zr_206_117 rfl ?_
                              refine zw_16 zr_206_119 (by omega) ?_
                              obtain ⟨f151, ef151⟩ : ∃ v, m0 70 821 = v := ⟨_, rfl⟩
                              have bf151 : 1 ≤ m0 70 821 ∧ m0 70 821 ≤ 9 := ib_70_weight hI0 (by omega)
                              rw [ef151] at bf151
                              refine zw_48k (c := 70) (len := 826) zr_206_120 rfl rfl (by omega) (by omega) (show ((818 + (((0 + 1) + 1) + 1)) : Int).toNat = 821 by omega) ef151 ?_
                              refine zw_36 zr_206_121 ?_
                              refine zw_6 zr_206_122 rfl ?_
                              refine zw_29h zr_206_124 ?_
                              intro x152 hx152a hx152b
                              refine zw_6 zr_206_125 rfl ?_
                              refine zw_29h zr_206_127 ?_
                              intro x153 hx153a hx153b
                              refine zw_27h zr_206_128 ?_
                              intro x154 hx154a hx154b
                              refine zw_14 (L' := [(2, 69), (0, a0), (0, a1), (1, (((0 + x28) + x95) + x137)), (9, 0), (1, (((0 + x29) + x96) + x138)), (9, 0), (1, x154), (9, 0), (1, x134), (9, 0), (1, ((0 + f91) + f130)), (9, 0), (0, (((0 + 1) + 1) + 1)), (1, x137), (9, 0), (1, x138), (9, 0)]) zr_206_129 (Nat.le_of_ble_eq_true rfl) rfl ?_
                              refine zw_6 zr_206_131 rfl ?_
                              refine zw_6 zr_206_133 rfl ?_
                              refine zw_29p (A := 9801) (B := 99) zr_206_135 (by omega) (by omega) (by omega) (by omega) (by decide) ?_
                              intro x155 hx155a hx155b
                              refine zw_14 (L' := [(2, 69), (0, a0), (0, a1), (1, (((0 + x28) + x95) + x137)), (9, 0), (1, (((0 + x29) + x96) + x138)), (9, 0), (1, x154), (9, 0), (1, x155), (9, 0), (1, ((0 + f91) + f130)), (9, 0), (0, (((0 + 1) + 1) + 1)), (1, x137), (9, 0), (1, x138), (9, 0)]) zr_206_136 (Nat.le_of_ble_eq_true rfl) rfl ?_
                              refine zw_6 zr_206_138 rfl ?_
                              refine zw_7 zr_206_140 rfl ?_
                              refine zw_46r (s := 70) zr_206_141 rfl rfl rfl rfl ?_
                              refine zw_push zr_206_144 ?_
                              refine zw_4 zr_206_147 rfl ?_
                              refine zw_16 zr_206_149 (by omega) ?_
                              refine zw_48k (c := 70) (len := 826) zr_206_150 rfl rfl (by omega) (by omega) (show ((818 + (((0 + 1) + 1) + 1)) : Int).toNat = 821 by omega) ef151 ?_
                              refine zw_36 zr_206_151 ?_
                              refine zw_27 zr_206_152 (by omega) ?_
                              refine zw_14 (L' := [(2, 69), (0, a0), (0, a1), (1, (((0 + x28) + x95) + x137)), (9, 0), (1, (((0 + x29) + x96) + x138)), (9, 0), (1, x154), (9, 0), (1, x155), (9, 0), (1, (((0 + f91) + f130) + f151)), (9, 0), (0, (((0 + 1) + 1) + 1)), (1, x137), (9, 0), (1, x138), (9, 0)]) zr_206_153 (Nat.le_of_ble_eq_true rfl) rfl ?_
                              refine zw_15 (c := 1) (L' := [(2, 69), (0, a0), (0, a1), (1, (((0 + x28) + x95) + x137)), (9, 0), (1, (((0 + x29) + x96) + x138)), (9, 0), (1, x154), (9, 0), (1, x155), (9, 0), (1, (((0 + f91) + f130) + f151)), (9, 0), (0, ((((0 + 1) + 1) + 1) + 1)), (1, x137), (9, 0), (1, x138), (9, 0)]) zr_206_155 rfl (by decide) (by omega) rfl ?_
                              refine zw_42 zr_206_158 ?_
                              refine zw_4 zr_206_38 rfl ?_
                              refine zw_push zr_206_40 ?_
                              refine zw_41_3 zr_206_41 ?_ ?_
                              · intro h156
                                refine zw_6 zr_206_161 rfl ?_
                                refine zw_push zr_206_163 ?_
                                refine zw_39_4 zr_206_164 zr_206_165 ?_ ?_
                                · intro h157
                                  refine zw_3 zr_206_171 rfl ?_
                                  refine zw_40_4 zr_206_172 ?_ ?_
                                  · intro h158
                                    refine zw_7 zr_206_185 rfl ?_
                                    refine zw_6 zr_206_186 rfl ?_
                                    refine zw_6 zr_206_188 rfl ?_
                                    refine zw_6 zr_206_190 rfl ?_
                                    refine zw_29p (A := 970299) (B := 27) zr_206_192 (by omega) (by omega) (by omega) (by omega) (by decide) ?_
                                    intro x159 hx159a hx159b
                                    refine zw_C zr_206_193 (Or.inl rfl) zm_173 rfl rfl ⟨Nat.le_of_ble_eq_true rfl, Nat.le_of_ble_eq_true rfl, Nat.le_of_ble_eq_true rfl, rfl, by decide⟩ (by omega) (th_173 (d := d - 1) (by omega) hI0 (a0 := x154) (a1 := x159)      (by omega) (by omega) ) ?_
                                    rintro _ m160 ⟨rfl, hIm160, gm160⟩
                                    have hFm160 : zFr W_206 m0 m160 := hF0.trans gm160 rfl
                                    have km160_70_822 : m160 70 822 = f1 := (gm160 70 822 rfl).trans ef1
                                    have km160_70_819 : m160 70 819 = f91 := (gm160 70 819 rfl).trans ef91
                                    have km160_70_820 : m160 70 820 = f130 := (gm160 70 820 rfl).trans ef130
                                    have km160_70_821 : m160 70 821 = f151 := (gm160 70 821 rfl).trans ef151
                                    show zW E (d) 206 196 [(2, 69), (0, a0), (0, a1), (1, (((0 + x28) + x95) + x137)), (9, 0), (1, (((0 + x29) + x96) + x138)), (9, 0), (1, x154), (9, 0), (1, x155), (9, 0), (1, (((0 + f91) + f130) + f151)), (9, 0), (0, ((((0 + 1) + 1) + 1) + 1)), (1, x137), (9, 0), (1, x138), (9, 0)] [] m160 Q
                                    refine zw_push zr_206_196 ?_
                                    refine zw_R zr_206_197 (by decide) zm_206 (v := (0, 1)) rfl ?_
                                    rw [← hQ]; exact ⟨_, rfl, by omega, by omega, hIm160, hFm160⟩
                                  · intro h161
                                    refine zw_7 zr_206_175 rfl ?_
                                    refine zw_5 zr_206_176 rfl ?_
                                    refine zw_6 zr_206_177 rfl ?_
                                    refine zw_C zr_206_179 (Or.inl rfl) zm_173 rfl rfl ⟨Nat.le_of_ble_eq_true rfl, Nat.le_of_ble_eq_true rfl, Nat.le_of_ble_eq_true rfl, rfl, by decide⟩ (by omega) (th_173 (d := d - 1) (by omega) hI0 (a0 := (((0 + x28) + x95) + x137)) (a1 := (((0 + x29) + x96) + x138))      (by omega) (by omega) ) ?_
                                    rintro _ m162 ⟨rfl, hIm162, gm162⟩
                                    have hFm162 : zFr W_206 m0 m162 := hF0.trans gm162 rfl
                                    have km162_70_822 : m162 70 822 = f1 := (gm162 70 822 rfl).trans ef1
                                    have km162_70_819 : m162 70 819 = f91 := (gm162 70 819 rfl).trans ef91
                                    have km162_70_820 : m162 70 820 = f130 := (gm162 70 820 rfl).trans ef130
                                    have km162_70_821 : m162 70 821 = f151 := (gm162 70 821 rfl).trans ef151
                                    show zW E (d) 206 182 [(2, 69), (0, a0), (0, a1), (1, (((0 + x28) + x95) + x137)), (9, 0), (1, (((0 + x29) + x96) + x138)), (9, 0), (1, x154), (9, 0), (1, x155), (9, 0), (1, (((0 + f91) + f130) + f151)), (9, 0), (0, ((((0 + 1) + 1) + 1) + 1)), (1, x137), (9, 0), (1, x138), (9, 0)] [] m162 Q
                                    refine zw_42 zr_206_182 ?_
                                    refine zw_push zr_206_196 ?_
                                    refine zw_R zr_206_197 (by decide) zm_206 (v := (0, 1)) rfl ?_
                                    rw [← hQ]; exact ⟨_, rfl, by omega, by omega, hIm162, hFm162⟩
                                · intro h163; omega
                              · intro h164; omega
                · intro h165
                  refine zw_5 zr_206_93 rfl ?_
                  refine zw_6 zr_206_94 rfl ?_
                  refine zw_27 zr_206_96 (by omega) ?_
                  refine zw_13 (L' := [(2, 69), (0, a0), (0, a1), (1, (0 + x23)), (9, 0), (1, 0), (9, 0), (1, 0), (9, 0), (1, 1), (9, 0), (1, 0), (9, 0), (0, 0), (1, x23), (9, 0), (1, x24), (9, 0)]) zr_206_97 (Nat.le_of_ble_eq_true rfl) rfl ?_
                  refine zw_6 zr_206_98 rfl ?_
                  refine zw_6 zr_206_100 rfl ?_
                  refine zw_27 zr_206_102 (by omega) ?_
                  refine zw_14 (L' := [(2, 69), (0, a0), (0, a1), (1, (0 + x23)), (9, 0), (1, (0 + x24)), (9, 0), (1, 0), (9, 0), (1, 1), (9, 0), (1, 0), (9, 0), (0, 0), (1, x23), (9, 0), (1, x24), (9, 0)]) zr_206_103 (Nat.le_of_ble_eq_true rfl) rfl ?_
                  refine zw_6 zr_206_105 rfl ?_
                  refine zw_6 zr_206_107 rfl ?_
                  refine zw_29 zr_206_109 (by omega) ?_
                  refine zw_7 zr_206_110 rfl ?_
                  refine zw_46r (s := 70) zr_206_111 rfl rfl rfl rfl ?_
                  refine zw_push zr_206_114 ?_
                  refine zw_4 zr_206_117 rfl ?_
                  refine zw_16 zr_206_119 (by omega) ?_
                  obtain ⟨f166, ef166⟩ : ∃ v, m0 70 818 = v := ⟨_, rfl⟩
                  have bf166 : 1 ≤ m0 70 818 ∧ m0 70 818 ≤ 9 := ib_70_weight hI0 (by omega)
                  rw [ef166] at bf166
                  refine zw_48k (c := 70) (len := 826) zr_206_120 rfl rfl (by omega) (by omega) (show ((818 + 0) : Int).toNat = 818 by omega) ef166 ?_
                  refine zw_36 zr_206_121 ?_
                  refine zw_6 zr_206_122 rfl ?_
                  refine zw_29h zr_206_124 ?_
                  intro x167 hx167a hx167b
                  refine zw_6 zr_206_125 rfl ?_
                  refine zw_29 zr_206_127 (by omega) ?_
                  refine zw_27 zr_206_128 (by omega) ?_
                  refine zw_14 (L' := [(2, 69), (0, a0), (0, a1), (1, (0 + x23)), (9, 0), (1, (0 + x24)), (9, 0), (1, ((0 * x24) + (x167 * 1))), (9, 0), (1, 1), (9, 0), (1, 0), (9, 0), (0, 0), (1, x23), (9, 0), (1, x24), (9, 0)]) zr_206_129 (Nat.le_of_ble_eq_true rfl) rfl ?_
                  refine zw_6 zr_206_131 rfl ?_
                  refine zw_6 zr_206_133 rfl ?_
                  refine zw_29 zr_206_135 (by omega) ?_
                  refine zw_14 (L' := [(2, 69), (0, a0), (0, a1), (1, (0 + x23)), (9, 0), (1, (0 + x24)), (9, 0), (1, ((0 * x24) + (x167 * 1))), (9, 0), (1, (1 * x24)), (9, 0), (1, 0), (9, 0), (0, 0), (1, x23), (9, 0), (1, x24), (9, 0)]) zr_206_136 (Nat.le_of_ble_eq_true rfl) rfl ?_
                  refine zw_6 zr_206_138 rfl ?_
                  refine zw_7 zr_206_140 rfl ?_
                  refine zw_46r (s := 70) zr_206_141 rfl rfl rfl rfl ?_
                  refine zw_push zr_206_144 ?_
                  refine zw_4 zr_206_147 rfl ?_
                  refine zw_16 zr_206_149 (by omega) ?_
                  refine zw_48k (c := 70) (len := 826) zr_206_150 rfl rfl (by omega) (by omega) (show ((818 + 0) : Int).toNat = 818 by omega) ef166 ?_
                  refine zw_36 zr_206_151 ?_
                  refine zw_27 zr_206_152 (by omega) ?_
                  refine zw_14 (L' := [(2, 69), (0, a0), (0, a1), (1, (0 + x23)), (9, 0), (1, (0 + x24)), (9, 0), (1, ((0 * x24) + (x167 * 1))), (9, 0), (1, (1 * x24)), (9, 0), (1, (0 + f166)), (9, 0), (0, 0), (1, x23), (9, 0), (1, x24), (9, 0)]) zr_206_153 (Nat.le_of_ble_eq_true rfl) rfl ?_
                  refine zw_15 (c := 1) (L' := [(2, 69), (0, a0), (0, a1), (1, (0 + x23)), (9, 0), (1, (0 + x24)), (9, 0), (1, ((0 * x24) + (x167 * 1))), (9, 0), (1, (1 * x24)), (9, 0), (1, (0 + f166)), (9, 0), (0, (0 + 1)), (1, x23), (9, 0), (1, x24), (9, 0)]) zr_206_155 rfl (by decide) (by omega) rfl ?_
                  refine zw_42 zr_206_158 ?_
                  refine zw_4 zr_206_38 rfl ?_
                  refine zw_push zr_206_40 ?_
                  refine zw_41_3 zr_206_41 ?_ ?_
                  · intro h168; omega
                  · intro h169
                    refine zw_7 zr_206_44 rfl ?_
                    refine zw_46r (s := 70) zr_206_45 rfl rfl rfl rfl ?_
                    refine zw_push zr_206_48 ?_
                    refine zw_push zr_206_50 ?_
                    refine zw_3 zr_206_52 rfl ?_
                    refine zw_18 zr_206_53 (by omega) ?_
                    refine zw_16 zr_206_54 (by omega) ?_
                    refine zw_push zr_206_55 ?_
                    refine zw_4 zr_206_56 rfl ?_
                    refine zw_18 zr_206_58 (by omega) ?_
                    refine zw_16 zr_206_59 (by omega) ?_
                    refine zw_48 (c := 70) (len := 826) zr_206_60 rfl rfl (by omega) (by omega) ?_
                    intro x170 ex170
                    have bx170 := ib_70_moves hI0 (k := (((10 + (8 * a0)) + (2 * (0 + 1)))).toNat) (by omega)
                    rw [← ex170] at bx170
                    clear ex170
                    refine zw_36 zr_206_61 ?_
                    refine zw_14 (L' := [(2, 69), (0, a0), (0, a1), (1, (0 + x23)), (9, 0), (1, (0 + x24)), (9, 0), (1, ((0 * x24) + (x167 * 1))), (9, 0), (1, (1 * x24)), (9, 0), (1, (0 + f166)), (9, 0), (0, (0 + 1)), (1, x170), (9, 0), (1, x24), (9, 0)]) zr_206_62 (Nat.le_of_ble_eq_true rfl) rfl ?_
                    refine zw_7 zr_206_64 rfl ?_
                    refine zw_46r (s := 70) zr_206_65 rfl rfl rfl rfl ?_
                    refine zw_push zr_206_68 ?_
                    refine zw_push zr_206_70 ?_
                    refine zw_3 zr_206_72 rfl ?_
                    refine zw_18 zr_206_73 (by omega) ?_
                    refine zw_16 zr_206_74 (by omega) ?_
                    refine zw_push zr_206_75 ?_
                    refine zw_4 zr_206_76 rfl ?_
                    refine zw_18 zr_206_78 (by omega) ?_
                    refine zw_16 zr_206_79 (by omega) ?_
                    refine zw_push zr_206_80 ?_
                    refine zw_16 zr_206_81 (by omega) ?_
                    refine zw_48 (c := 70) (len := 826) zr_206_82 rfl rfl (by omega) (by omega) ?_
                    intro x171 ex171
                    have bx171 := ib_70_moves hI0 (k := ((((10 + (8 * a0)) + (2 * (0 + 1))) + 1)).toNat) (by omega)
                    rw [← ex171] at bx171
                    clear ex171
                    refine zw_36 zr_206_83 ?_
                    refine zw_14 (L' := [(2, 69), (0, a0), (0, a1), (1, (0 + x23)), (9, 0), (1, (0 + x24)), (9, 0), (1, ((0 * x24) + (x167 * 1))), (9, 0), (1, (1 * x24)), (9, 0), (1, (0 + f166)), (9, 0), (0, (0 + 1)), (1, x170), (9, 0), (1, x171), (9, 0)]) zr_206_84 (Nat.le_of_ble_eq_true rfl) rfl ?_
                    refine zw_6 zr_206_86 rfl ?_
                    refine zw_push zr_206_88 ?_
                    refine zw_39_5 zr_206_89 zr_206_90 ?_ ?_
                    · intro h172
                      refine zw_15 (c := 1) (L' := [(2, 69), (0, a0), (0, a1), (1, (0 + x23)), (9, 0), (1, (0 + x24)), (9, 0), (1, ((0 * x24) + (x167 * 1))), (9, 0), (1, (1 * x24)), (9, 0), (1, (0 + f166)), (9, 0), (0, ((0 + 1) + 1)), (1, x170), (9, 0), (1, x171), (9, 0)]) zr_206_155 rfl (by decide) (by omega) rfl ?_
                      refine zw_42 zr_206_158 ?_
                      refine zw_4 zr_206_38 rfl ?_
                      refine zw_push zr_206_40 ?_
                      refine zw_41_3 zr_206_41 ?_ ?_
                      · intro h173; omega
                      · intro h174
                        refine zw_7 zr_206_44 rfl ?_
                        refine zw_46r (s := 70) zr_206_45 rfl rfl rfl rfl ?_
                        refine zw_push zr_206_48 ?_
                        refine zw_push zr_206_50 ?_
                        refine zw_3 zr_206_52 rfl ?_
                        refine zw_18 zr_206_53 (by omega) ?_
                        refine zw_16 zr_206_54 (by omega) ?_
                        refine zw_push zr_206_55 ?_
                        refine zw_4 zr_206_56 rfl ?_
                        refine zw_18 zr_206_58 (by omega) ?_
                        refine zw_16 zr_206_59 (by omega) ?_
                        refine zw_48 (c := 70) (len := 826) zr_206_60 rfl rfl (by omega) (by omega) ?_
                        intro x175 ex175
                        have bx175 := ib_70_moves hI0 (k := (((10 + (8 * a0)) + (2 * ((0 + 1) + 1)))).toNat) (by omega)
                        rw [← ex175] at bx175
                        clear ex175
                        refine zw_36 zr_206_61 ?_
                        refine zw_14 (L' := [(2, 69), (0, a0), (0, a1), (1, (0 + x23)), (9, 0), (1, (0 + x24)), (9, 0), (1, ((0 * x24) + (x167 * 1))), (9, 0), (1, (1 * x24)), (9, 0), (1, (0 + f166)), (9, 0), (0, ((0 + 1) + 1)), (1, x175), (9, 0), (1, x171), (9, 0)]) zr_206_62 (Nat.le_of_ble_eq_true rfl) rfl ?_
                        refine zw_7 zr_206_64 rfl ?_
                        refine zw_46r (s := 70) zr_206_65 rfl rfl rfl rfl ?_
                        refine zw_push zr_206_68 ?_
                        refine zw_push zr_206_70 ?_
                        refine zw_3 zr_206_72 rfl ?_
                        refine zw_18 zr_206_73 (by omega) ?_
                        refine zw_16 zr_206_74 (by omega) ?_
                        refine zw_push zr_206_75 ?_
                        refine zw_4 zr_206_76 rfl ?_
                        refine zw_18 zr_206_78 (by omega) ?_
                        refine zw_16 zr_206_79 (by omega) ?_
                        refine zw_push zr_206_80 ?_
                        refine zw_16 zr_206_81 (by omega) ?_
                        refine zw_48 (c := 70) (len := 826) zr_206_82 rfl rfl (by omega) (by omega) ?_
                        intro x176 ex176
                        have bx176 := ib_70_moves hI0 (k := ((((10 + (8 * a0)) + (2 * ((0 + 1) + 1))) + 1)).toNat) (by omega)
                        rw [← ex176] at bx176
                        clear ex176
                        refine zw_36 zr_206_83 ?_
                        refine zw_14 (L' := [(2, 69), (0, a0), (0, a1), (1, (0 + x23)), (9, 0), (1, (0 + x24)), (9, 0), (1, ((0 * x24) + (x167 * 1))), (9, 0), (1, (1 * x24)), (9, 0), (1, (0 + f166)), (9, 0), (0, ((0 + 1) + 1)), (1, x175), (9, 0), (1, x176), (9, 0)]) zr_206_84 (Nat.le_of_ble_eq_true rfl) rfl ?_
                        refine zw_6 zr_206_86 rfl ?_
                        refine zw_push zr_206_88 ?_
                        refine zw_39_5 zr_206_89 zr_206_90 ?_ ?_
                        · intro h177
                          refine zw_15 (c := 1) (L' := [(2, 69), (0, a0), (0, a1), (1, (0 + x23)), (9, 0), (1, (0 + x24)), (9, 0), (1, ((0 * x24) + (x167 * 1))), (9, 0), (1, (1 * x24)), (9, 0), (1, (0 + f166)), (9, 0), (0, (((0 + 1) + 1) + 1)), (1, x175), (9, 0), (1, x176), (9, 0)]) zr_206_155 rfl (by decide) (by omega) rfl ?_
                          refine zw_42 zr_206_158 ?_
                          refine zw_4 zr_206_38 rfl ?_
                          refine zw_push zr_206_40 ?_
                          refine zw_41_3 zr_206_41 ?_ ?_
                          · intro h178; omega
                          · intro h179
                            refine zw_7 zr_206_44 rfl ?_
                            refine zw_46r (s := 70) zr_206_45 rfl rfl rfl rfl ?_
                            refine zw_push zr_206_48 ?_
                            refine zw_push zr_206_50 ?_
                            refine zw_3 zr_206_52 rfl ?_
                            refine zw_18 zr_206_53 (by omega) ?_
                            refine zw_16 zr_206_54 (by omega) ?_
                            refine zw_push zr_206_55 ?_
                            refine zw_4 zr_206_56 rfl ?_
                            refine zw_18 zr_206_58 (by omega) ?_
                            refine zw_16 zr_206_59 (by omega) ?_
                            refine zw_48 (c := 70) (len := 826) zr_206_60 rfl rfl (by omega) (by omega) ?_
                            intro x180 ex180
                            have bx180 := ib_70_moves hI0 (k := (((10 + (8 * a0)) + (2 * (((0 + 1) + 1) + 1)))).toNat) (by omega)
                            rw [← ex180] at bx180
                            clear ex180
                            refine zw_36 zr_206_61 ?_
                            refine zw_14 (L' := [(2, 69), (0, a0), (0, a1), (1, (0 + x23)), (9, 0), (1, (0 + x24)), (9, 0), (1, ((0 * x24) + (x167 * 1))), (9, 0), (1, (1 * x24)), (9, 0), (1, (0 + f166)), (9, 0), (0, (((0 + 1) + 1) + 1)), (1, x180), (9, 0), (1, x176), (9, 0)]) zr_206_62 (Nat.le_of_ble_eq_true rfl) rfl ?_
                            refine zw_7 zr_206_64 rfl ?_
                            refine zw_46r (s := 70) zr_206_65 rfl rfl rfl rfl ?_
                            refine zw_push zr_206_68 ?_
                            refine zw_push zr_206_70 ?_
                            refine zw_3 zr_206_72 rfl ?_
                            refine zw_18 zr_206_73 (by omega) ?_
                            refine zw_16 zr_206_74 (by omega) ?_
                            refine zw_push zr_206_75 ?_
                            refine zw_4 zr_206_76 rfl ?_
                            refine zw_18 zr_206_78 (by omega) ?_
                            refine zw_16 zr_206_79 (by omega) ?_
                            refine zw_push zr_206_80 ?_
                            refine zw_16 zr_206_81 (by omega) ?_
                            refine zw_48 (c := 70) (len := 826) zr_206_82 rfl rfl (by omega) (by omega) ?_
                            intro x181 ex181
                            have bx181 := ib_70_moves hI0 (k := ((((10 + (8 * a0)) + (2 * (((0 + 1) + 1) + 1))) + 1)).toNat) (by omega)
                            rw [← ex181] at bx181
                            clear ex181
                            refine zw_36 zr_206_83 ?_
                            refine zw_14 (L' := [(2, 69), (0, a0), (0, a1), (1, (0 + x23)), (9, 0), (1, (0 + x24)), (9, 0), (1, ((0 * x24) + (x167 * 1))), (9, 0), (1, (1 * x24)), (9, 0), (1, (0 + f166)), (9, 0), (0, (((0 + 1) + 1) + 1)), (1, x180), (9, 0), (1, x181), (9, 0)]) zr_206_84 (Nat.le_of_ble_eq_true rfl) rfl ?_
                            refine zw_6 zr_206_86 rfl ?_
                            refine zw_push zr_206_88 ?_
                            refine zw_39_5 zr_206_89 zr_206_90 ?_ ?_
                            · intro h182
                              refine zw_15 (c := 1) (L' := [(2, 69), (0, a0), (0, a1), (1, (0 + x23)), (9, 0), (1, (0 + x24)), (9, 0), (1, ((0 * x24) + (x167 * 1))), (9, 0), (1, (1 * x24)), (9, 0), (1, (0 + f166)), (9, 0), (0, ((((0 + 1) + 1) + 1) + 1)), (1, x180), (9, 0), (1, x181), (9, 0)]) zr_206_155 rfl (by decide) (by omega) rfl ?_
                              refine zw_42 zr_206_158 ?_
                              refine zw_4 zr_206_38 rfl ?_
                              refine zw_push zr_206_40 ?_
                              refine zw_41_3 zr_206_41 ?_ ?_
                              · intro h183
                                refine zw_6 zr_206_161 rfl ?_
                                refine zw_push zr_206_163 ?_
                                refine zw_39_4 zr_206_164 zr_206_165 ?_ ?_
                                · intro h184
                                  refine zw_3 zr_206_171 rfl ?_
                                  refine zw_40_4 zr_206_172 ?_ ?_
                                  · intro h185
                                    refine zw_7 zr_206_185 rfl ?_
                                    refine zw_6 zr_206_186 rfl ?_
                                    refine zw_6 zr_206_188 rfl ?_
                                    refine zw_6 zr_206_190 rfl ?_
                                    refine zw_29p (A := 99) (B := 9) zr_206_192 (by omega) (by omega) (by omega) (by omega) (by decide) ?_
                                    intro x186 hx186a hx186b
                                    refine zw_C zr_206_193 (Or.inl rfl) zm_173 rfl rfl ⟨Nat.le_of_ble_eq_true rfl, Nat.le_of_ble_eq_true rfl, Nat.le_of_ble_eq_true rfl, rfl, by decide⟩ (by omega) (th_173 (d := d - 1) (by omega) hI0 (a0 := ((0 * x24) + (x167 * 1))) (a1 := x186)      (by omega) (by omega) ) ?_
                                    rintro _ m187 ⟨rfl, hIm187, gm187⟩
                                    have hFm187 : zFr W_206 m0 m187 := hF0.trans gm187 rfl
                                    have km187_70_822 : m187 70 822 = f1 := (gm187 70 822 rfl).trans ef1
                                    have km187_70_818 : m187 70 818 = f166 := (gm187 70 818 rfl).trans ef166
                                    show zW E (d) 206 196 [(2, 69), (0, a0), (0, a1), (1, (0 + x23)), (9, 0), (1, (0 + x24)), (9, 0), (1, ((0 * x24) + (x167 * 1))), (9, 0), (1, (1 * x24)), (9, 0), (1, (0 + f166)), (9, 0), (0, ((((0 + 1) + 1) + 1) + 1)), (1, x180), (9, 0), (1, x181), (9, 0)] [] m187 Q
                                    refine zw_push zr_206_196 ?_
                                    refine zw_R zr_206_197 (by decide) zm_206 (v := (0, 1)) rfl ?_
                                    rw [← hQ]; exact ⟨_, rfl, by omega, by omega, hIm187, hFm187⟩
                                  · intro h188
                                    refine zw_7 zr_206_175 rfl ?_
                                    refine zw_5 zr_206_176 rfl ?_
                                    refine zw_6 zr_206_177 rfl ?_
                                    refine zw_C zr_206_179 (Or.inl rfl) zm_173 rfl rfl ⟨Nat.le_of_ble_eq_true rfl, Nat.le_of_ble_eq_true rfl, Nat.le_of_ble_eq_true rfl, rfl, by decide⟩ (by omega) (th_173 (d := d - 1) (by omega) hI0 (a0 := (0 + x23)) (a1 := (0 + x24))      (by omega) (by omega) ) ?_
                                    rintro _ m189 ⟨rfl, hIm189, gm189⟩
                                    have hFm189 : zFr W_206 m0 m189 := hF0.trans gm189 rfl
                                    have km189_70_822 : m189 70 822 = f1 := (gm189 70 822 rfl).trans ef1
                                    have km189_70_818 : m189 70 818 = f166 := (gm189 70 818 rfl).trans ef166
                                    show zW E (d) 206 182 [(2, 69), (0, a0), (0, a1), (1, (0 + x23)), (9, 0), (1, (0 + x24)), (9, 0), (1, ((0 * x24) + (x167 * 1))), (9, 0), (1, (1 * x24)), (9, 0), (1, (0 + f166)), (9, 0), (0, ((((0 + 1) + 1) + 1) + 1)), (1, x180), (9, 0), (1, x181), (9, 0)] [] m189 Q
                                    refine zw_42 zr_206_182 ?_
                                    refine zw_push zr_206_196 ?_
                                    refine zw_R zr_206_197 (by decide) zm_206 (v := (0, 1)) rfl ?_
                                    rw [← hQ]; exact ⟨_, rfl, by omega, by omega, hIm189, hFm189⟩
                                · intro h190; omega
                              · intro h191; omega
                            · intro h192
                              refine zw_5 zr_206_93 rfl ?_
                              refine zw_6 zr_206_94 rfl ?_
                              refine zw_27 zr_206_96 (by omega) ?_
                              refine zw_13 (L' := [(2, 69), (0, a0), (0, a1), (1, ((0 + x23) + x180)), (9, 0), (1, (0 + x24)), (9, 0), (1, ((0 * x24) + (x167 * 1))), (9, 0), (1, (1 * x24)), (9, 0), (1, (0 + f166)), (9, 0), (0, (((0 + 1) + 1) + 1)), (1, x180), (9, 0), (1, x181), (9, 0)]) zr_206_97 (Nat.le_of_ble_eq_true rfl) rfl ?_
                              refine zw_6 zr_206_98 rfl ?_
                              refine zw_6 zr_206_100 rfl ?_
                              refine zw_27 zr_206_102 (by omega) ?_
                              refine zw_14 (L' := [(2, 69), (0, a0), (0, a1), (1, ((0 + x23) + x180)), (9, 0), (1, ((0 + x24) + x181)), (9, 0), (1, ((0 * x24) + (x167 * 1))), (9, 0), (1, (1 * x24)), (9, 0), (1, (0 + f166)), (9, 0), (0, (((0 + 1) + 1) + 1)), (1, x180), (9, 0), (1, x181), (9, 0)]) zr_206_103 (Nat.le_of_ble_eq_true rfl) rfl ?_
                              refine zw_6 zr_206_105 rfl ?_
                              refine zw_6 zr_206_107 rfl ?_
                              refine zw_29h zr_206_109 ?_
                              intro x193 hx193a hx193b
                              refine zw_7 zr_206_110 rfl ?_
                              refine zw_46r (s := 70) zr_206_111 rfl rfl rfl rfl ?_
                              refine zw_push zr_206_114 ?_
                              refine zw_4 zr_206_117 rfl ?_
                              refine zw_16 zr_206_119 (by omega) ?_
                              obtain ⟨f194, ef194⟩ : ∃ v, m0 70 821 = v := ⟨_, rfl⟩
                              have bf194 : 1 ≤ m0 70 821 ∧ m0 70 821 ≤ 9 := ib_70_weight hI0 (by omega)
                              rw [ef194] at bf194
                              refine zw_48k (c := 70) (len := 826) zr_206_120 rfl rfl (by omega) (by omega) (show ((818 + (((0 + 1) + 1) + 1)) : Int).toNat = 821 by omega) ef194 ?_
                              refine zw_36 zr_206_121 ?_
                              refine zw_6 zr_206_122 rfl ?_
                              refine zw_29h zr_206_124 ?_
                              intro x195 hx195a hx195b
                              refine zw_6 zr_206_125 rfl ?_
                              refine zw_29h zr_206_127 ?_
                              intro x196 hx196a hx196b
                              refine zw_27h zr_206_128 ?_
                              intro x197 hx197a hx197b
                              refine zw_14 (L' := [(2, 69), (0, a0), (0, a1), (1, ((0 + x23) + x180)), (9, 0), (1, ((0 + x24) + x181)), (9, 0), (1, x197), (9, 0), (1, (1 * x24)), (9, 0), (1, (0 + f166)), (9, 0), (0, (((0 + 1) + 1) + 1)), (1, x180), (9, 0), (1, x181), (9, 0)]) zr_206_129 (Nat.le_of_ble_eq_true rfl) rfl ?_
                              refine zw_6 zr_206_131 rfl ?_
                              refine zw_6 zr_206_133 rfl ?_
                              refine zw_29p (A := 99) (B := 99) zr_206_135 (by omega) (by omega) (by omega) (by omega) (by decide) ?_
                              intro x198 hx198a hx198b
                              refine zw_14 (L' := [(2, 69), (0, a0), (0, a1), (1, ((0 + x23) + x180)), (9, 0), (1, ((0 + x24) + x181)), (9, 0), (1, x197), (9, 0), (1, x198), (9, 0), (1, (0 + f166)), (9, 0), (0, (((0 + 1) + 1) + 1)), (1, x180), (9, 0), (1, x181), (9, 0)]) zr_206_136 (Nat.le_of_ble_eq_true rfl) rfl ?_
                              refine zw_6 zr_206_138 rfl ?_
                              refine zw_7 zr_206_140 rfl ?_
                              refine zw_46r (s := 70) zr_206_141 rfl rfl rfl rfl ?_
                              refine zw_push zr_206_144 ?_
                              refine zw_4 zr_206_147 rfl ?_
                              refine zw_16 zr_206_149 (by omega) ?_
                              refine zw_48k (c := 70) (len := 826) zr_206_150 rfl rfl (by omega) (by omega) (show ((818 + (((0 + 1) + 1) + 1)) : Int).toNat = 821 by omega) ef194 ?_
                              refine zw_36 zr_206_151 ?_
                              refine zw_27 zr_206_152 (by omega) ?_
                              refine zw_14 (L' := [(2, 69), (0, a0), (0, a1), (1, ((0 + x23) + x180)), (9, 0), (1, ((0 + x24) + x181)), (9, 0), (1, x197), (9, 0), (1, x198), (9, 0), (1, ((0 + f166) + f194)), (9, 0), (0, (((0 + 1) + 1) + 1)), (1, x180), (9, 0), (1, x181), (9, 0)]) zr_206_153 (Nat.le_of_ble_eq_true rfl) rfl ?_
                              refine zw_15 (c := 1) (L' := [(2, 69), (0, a0), (0, a1), (1, ((0 + x23) + x180)), (9, 0), (1, ((0 + x24) + x181)), (9, 0), (1, x197), (9, 0), (1, x198), (9, 0), (1, ((0 + f166) + f194)), (9, 0), (0, ((((0 + 1) + 1) + 1) + 1)), (1, x180), (9, 0), (1, x181), (9, 0)]) zr_206_155 rfl (by decide) (by omega) rfl ?_
                              refine zw_42 zr_206_158 ?_
                              refine zw_4 zr_206_38 rfl ?_
                              refine zw_push zr_206_40 ?_
                              refine zw_41_3 zr_206_41 ?_ ?_
                              · intro h199
                                refine zw_6 zr_206_161 rfl ?_
                                refine zw_push zr_206_163 ?_
                                refine zw_39_4 zr_206_164 zr_206_165 ?_ ?_
                                · intro h200
                                  refine zw_3 zr_206_171 rfl ?_
                                  refine zw_40_4 zr_206_172 ?_ ?_
                                  · intro h201
                                    refine zw_7 zr_206_185 rfl ?_
                                    refine zw_6 zr_206_186 rfl ?_
                                    refine zw_6 zr_206_188 rfl ?_
                                    refine zw_6 zr_206_190 rfl ?_
                                    refine zw_29p (A := 9801) (B := 18) zr_206_192 (by omega) (by omega) (by omega) (by omega) (by decide) ?_
                                    intro x202 hx202a hx202b
                                    refine zw_C zr_206_193 (Or.inl rfl) zm_173 rfl rfl ⟨Nat.le_of_ble_eq_true rfl, Nat.le_of_ble_eq_true rfl, Nat.le_of_ble_eq_true rfl, rfl, by decide⟩ (by omega) (th_173 (d := d - 1) (by omega) hI0 (a0 := x197) (a1 := x202)      (by omega) (by omega) ) ?_
                                    rintro _ m203 ⟨rfl, hIm203, gm203⟩
                                    have hFm203 : zFr W_206 m0 m203 := hF0.trans gm203 rfl
                                    have km203_70_822 : m203 70 822 = f1 := (gm203 70 822 rfl).trans ef1
                                    have km203_70_818 : m203 70 818 = f166 := (gm203 70 818 rfl).trans ef166
                                    have km203_70_821 : m203 70 821 = f194 := (gm203 70 821 rfl).trans ef194
                                    show zW E (d) 206 196 [(2, 69), (0, a0), (0, a1), (1, ((0 + x23) + x180)), (9, 0), (1, ((0 + x24) + x181)), (9, 0), (1, x197), (9, 0), (1, x198), (9, 0), (1, ((0 + f166) + f194)), (9, 0), (0, ((((0 + 1) + 1) + 1) + 1)), (1, x180), (9, 0), (1, x181), (9, 0)] [] m203 Q
                                    refine zw_push zr_206_196 ?_
                                    refine zw_R zr_206_197 (by decide) zm_206 (v := (0, 1)) rfl ?_
                                    rw [← hQ]; exact ⟨_, rfl, by omega, by omega, hIm203, hFm203⟩
                                  · intro h204
                                    refine zw_7 zr_206_175 rfl ?_
                                    refine zw_5 zr_206_176 rfl ?_
                                    refine zw_6 zr_206_177 rfl ?_
                                    refine zw_C zr_206_179 (Or.inl rfl) zm_173 rfl rfl ⟨Nat.le_of_ble_eq_true rfl, Nat.le_of_ble_eq_true rfl, Nat.le_of_ble_eq_true rfl, rfl, by decide⟩ (by omega) (th_173 (d := d - 1) (by omega) hI0 (a0 := ((0 + x23) + x180)) (a1 := ((0 + x24) + x181))      (by omega) (by omega) ) ?_
                                    rintro _ m205 ⟨rfl, hIm205, gm205⟩
                                    have hFm205 : zFr W_206 m0 m205 := hF0.trans gm205 rfl
                                    have km205_70_822 : m205 70 822 = f1 := (gm205 70 822 rfl).trans ef1
                                    have km205_70_818 : m205 70 818 = f166 := (gm205 70 818 rfl).trans ef166
                                    have km205_70_821 : m205 70 821 = f194 := (gm205 70 821 rfl).trans ef194
                                    show zW E (d) 206 182 [(2, 69), (0, a0), (0, a1), (1, ((0 + x23) + x180)), (9, 0), (1, ((0 + x24) + x181)), (9, 0), (1, x197), (9, 0), (1, x198), (9, 0), (1, ((0 + f166) + f194)), (9, 0), (0, ((((0 + 1) + 1) + 1) + 1)), (1, x180), (9, 0), (1, x181), (9, 0)] [] m205 Q
                                    refine zw_42 zr_206_182 ?_
                                    refine zw_push zr_206_196 ?_
                                    refine zw_R zr_206_197 (by decide) zm_206 (v := (0, 1)) rfl ?_
                                    rw [← hQ]; exact ⟨_, rfl, by omega, by omega, hIm205, hFm205⟩
                                · intro h206; omega
                              · intro h207; omega
                        · intro h208
                          refine zw_5 zr_206_93 rfl ?_
                          refine zw_6 zr_206_94 rfl ?_
                          refine zw_27 zr_206_96 (by omega) ?_
                          refine zw_13 (L' := [(2, 69), (0, a0), (0, a1), (1, ((0 + x23) + x175)), (9, 0), (1, (0 + x24)), (9, 0), (1, ((0 * x24) + (x167 * 1))), (9, 0), (1, (1 * x24)), (9, 0), (1, (0 + f166)), (9, 0), (0, ((0 + 1) + 1)), (1, x175), (9, 0), (1, x176), (9, 0)]) zr_206_97 (Nat.le_of_ble_eq_true rfl) rfl ?_
                          refine zw_6 zr_206_98 rfl ?_
                          refine zw_6 zr_206_100 rfl ?_
                          refine zw_27 zr_206_102 (by omega) ?_
                          refine zw_14 (L' := [(2, 69), (0, a0), (0, a1), (1, ((0 + x23) + x175)), (9, 0), (1, ((0 + x24) + x176)), (9, 0), (1, ((0 * x24) + (x167 * 1))), (9, 0), (1, (1 * x24)), (9, 0), (1, (0 + f166)), (9, 0), (0, ((0 + 1) + 1)), (1, x175), (9, 0), (1, x176), (9, 0)]) zr_206_103 (Nat.le_of_ble_eq_true rfl) rfl ?_
                          refine zw_6 zr_206_105 rfl ?_
                          refine zw_6 zr_206_107 rfl ?_
                          refine zw_29h zr_206_109 ?_
                          intro x209 hx209a hx209b
                          refine zw_7 zr_206_110 rfl ?_
                          refine zw_46r (s := 70) zr_206_111 rfl rfl rfl rfl ?_
                          refine zw_push zr_206_114 ?_
                          refine zw_4 zr_206_117 rfl ?_
                          refine zw_16 zr_206_119 (by omega) ?_
                          obtain ⟨f210, ef210⟩ : ∃ v, m0 70 820 = v := ⟨_, rfl⟩
                          have bf210 : 1 ≤ m0 70 820 ∧ m0 70 820 ≤ 9 := ib_70_weight hI0 (by omega)
                          rw [ef210] at bf210
                          refine zw_48k (c := 70) (len := 826) zr_206_120 rfl rfl (by omega) (by omega) (show ((818 + ((0 + 1) + 1)) : Int).toNat = 820 by omega) ef210 ?_
                          refine zw_36 zr_206_121 ?_
                          refine zw_6 zr_206_122 rfl ?_
                          refine zw_29h zr_206_124 ?_
                          intro x211 hx211a hx211b
                          refine zw_6 zr_206_125 rfl ?_
                          refine zw_29h zr_206_127 ?_
                          intro x212 hx212a hx212b
                          refine zw_27h zr_206_128 ?_
                          intro x213 hx213a hx213b
                          refine zw_14 (L' := [(2, 69), (0, a0), (0, a1), (1, ((0 + x23) + x175)), (9, 0), (1, ((0 + x24) + x176)), (9, 0), (1, x213), (9, 0), (1, (1 * x24)), (9, 0), (1, (0 + f166)), (9, 0), (0, ((0 + 1) + 1)), (1, x175), (9, 0), (1, x176), (9, 0)]) zr_206_129 (Nat.le_of_ble_eq_true rfl) rfl ?_
                          refine zw_6 zr_206_131 rfl ?_
                          refine zw_6 zr_206_133 rfl ?_
                          refine zw_29p (A := 99) (B := 99) zr_206_135 (by omega) (by omega) (by omega) (by omega) (by decide) ?_
                          intro x214 hx214a hx214b
                          refine zw_14 (L' := [(2, 69), (0, a0), (0, a1), (1, ((0 + x23) + x175)), (9, 0), (1, ((0 + x24) + x176)), (9, 0), (1, x213), (9, 0), (1, x214), (9, 0), (1, (0 + f166)), (9, 0), (0, ((0 + 1) + 1)), (1, x175), (9, 0), (1, x176), (9, 0)]) zr_206_136 (Nat.le_of_ble_eq_true rfl) rfl ?_
                          refine zw_6 zr_206_138 rfl ?_
                          refine zw_7 zr_206_140 rfl ?_
                          refine zw_46r (s := 70) zr_206_141 rfl rfl rfl rfl ?_
                          refine zw_push zr_206_144 ?_
                          refine zw_4 zr_206_147 rfl ?_
                          refine zw_16 zr_206_149 (by omega) ?_
                          refine zw_48k (c := 70) (len := 826) zr_206_150 rfl rfl (by omega) (by omega) (show ((818 + ((0 + 1) + 1)) : Int).toNat = 820 by omega) ef210 ?_
                          refine zw_36 zr_206_151 ?_
                          refine zw_27 zr_206_152 (by omega) ?_
                          refine zw_14 (L' := [(2, 69), (0, a0), (0, a1), (1, ((0 + x23) + x175)), (9, 0), (1, ((0 + x24) + x176)), (9, 0), (1, x213), (9, 0), (1, x214), (9, 0), (1, ((0 + f166) + f210)), (9, 0), (0, ((0 + 1) + 1)), (1, x175), (9, 0), (1, x176), (9, 0)]) zr_206_153 (Nat.le_of_ble_eq_true rfl) rfl ?_
                          refine zw_15 (c := 1) (L' := [(2, 69), (0, a0), (0, a1), (1, ((0 + x23) + x175)), (9, 0), (1, ((0 + x24) + x176)), (9, 0), (1, x213), (9, 0), (1, x214), (9, 0), (1, ((0 + f166) + f210)), (9, 0), (0, (((0 + 1) + 1) + 1)), (1, x175), (9, 0), (1, x176), (9, 0)]) zr_206_155 rfl (by decide) (by omega) rfl ?_
                          refine zw_42 zr_206_158 ?_
                          refine zw_4 zr_206_38 rfl ?_
                          refine zw_push zr_206_40 ?_
                          refine zw_41_3 zr_206_41 ?_ ?_
                          · intro h215; omega
                          · intro h216
                            refine zw_7 zr_206_44 rfl ?_
                            refine zw_46r (s := 70) zr_206_45 rfl rfl rfl rfl ?_
                            refine zw_push zr_206_48 ?_
                            refine zw_push zr_206_50 ?_
                            refine zw_3 zr_206_52 rfl ?_
                            refine zw_18 zr_206_53 (by omega) ?_
                            refine zw_16 zr_206_54 (by omega) ?_
                            refine zw_push zr_206_55 ?_
                            refine zw_4 zr_206_56 rfl ?_
                            refine zw_18 zr_206_58 (by omega) ?_
                            refine zw_16 zr_206_59 (by omega) ?_
                            refine zw_48 (c := 70) (len := 826) zr_206_60 rfl rfl (by omega) (by omega) ?_
                            intro x217 ex217
                            have bx217 := ib_70_moves hI0 (k := (((10 + (8 * a0)) + (2 * (((0 + 1) + 1) + 1)))).toNat) (by omega)
                            rw [← ex217] at bx217
                            clear ex217
                            refine zw_36 zr_206_61 ?_
                            refine zw_14 (L' := [(2, 69), (0, a0), (0, a1), (1, ((0 + x23) + x175)), (9, 0), (1, ((0 + x24) + x176)), (9, 0), (1, x213), (9, 0), (1, x214), (9, 0), (1, ((0 + f166) + f210)), (9, 0), (0, (((0 + 1) + 1) + 1)), (1, x217), (9, 0), (1, x176), (9, 0)]) zr_206_62 (Nat.le_of_ble_eq_true rfl) rfl ?_
                            refine zw_7 zr_206_64 rfl ?_
                            refine zw_46r (s := 70) zr_206_65 rfl rfl rfl rfl ?_
                            refine zw_push zr_206_68 ?_
                            refine zw_push zr_206_70 ?_
                            refine zw_3 zr_206_72 rfl ?_
                            refine zw_18 zr_206_73 (by omega) ?_
                            refine zw_16 zr_206_74 (by omega) ?_
                            refine zw_push zr_206_75 ?_
                            refine zw_4 zr_206_76 rfl ?_
                            refine zw_18 zr_206_78 (by omega) ?_
                            refine zw_16 zr_206_79 (by omega) ?_
                            refine zw_push zr_206_80 ?_
                            refine zw_16 zr_206_81 (by omega) ?_
                            refine zw_48 (c := 70) (len := 826) zr_206_82 rfl rfl (by omega) (by omega) ?_
                            intro x218 ex218
                            have bx218 := ib_70_moves hI0 (k := ((((10 + (8 * a0)) + (2 * (((0 + 1) + 1) + 1))) + 1)).toNat) (by omega)
                            rw [← ex218] at bx218
                            clear ex218
                            refine zw_36 zr_206_83 ?_
                            refine zw_14 (L' := [(2, 69), (0, a0), (0, a1), (1, ((0 + x23) + x175)), (9, 0), (1, ((0 + x24) + x176)), (9, 0), (1, x213), (9, 0), (1, x214), (9, 0), (1, ((0 + f166) + f210)), (9, 0), (0, (((0 + 1) + 1) + 1)), (1, x217), (9, 0), (1, x218), (9, 0)]) zr_206_84 (Nat.le_of_ble_eq_true rfl) rfl ?_
                            refine zw_6 zr_206_86 rfl ?_
                            refine zw_push zr_206_88 ?_
                            refine zw_39_5 zr_206_89 zr_206_90 ?_ ?_
                            · intro h219
                              refine zw_15 (c := 1) (L' := [(2, 69), (0, a0), (0, a1), (1, ((0 + x23) + x175)), (9, 0), (1, ((0 + x24) + x176)), (9, 0), (1, x213), (9, 0), (1, x214), (9, 0), (1, ((0 + f166) + f210)), (9, 0), (0, ((((0 + 1) + 1) + 1) + 1)), (1, x217), (9, 0), (1, x218), (9, 0)]) zr_206_155 rfl (by decide) (by omega) rfl ?_
                              refine zw_42 zr_206_158 ?_
                              refine zw_4 zr_206_38 rfl ?_
                              refine zw_push zr_206_40 ?_
                              refine zw_41_3 zr_206_41 ?_ ?_
                              · intro h220
                                refine zw_6 zr_206_161 rfl ?_
                                refine zw_push zr_206_163 ?_
                                refine zw_39_4 zr_206_164 zr_206_165 ?_ ?_
                                · intro h221
                                  refine zw_3 zr_206_171 rfl ?_
                                  refine zw_40_4 zr_206_172 ?_ ?_
                                  · intro h222
                                    refine zw_7 zr_206_185 rfl ?_
                                    refine zw_6 zr_206_186 rfl ?_
                                    refine zw_6 zr_206_188 rfl ?_
                                    refine zw_6 zr_206_190 rfl ?_
                                    refine zw_29p (A := 9801) (B := 18) zr_206_192 (by omega) (by omega) (by omega) (by omega) (by decide) ?_
                                    intro x223 hx223a hx223b
                                    refine zw_C zr_206_193 (Or.inl rfl) zm_173 rfl rfl ⟨Nat.le_of_ble_eq_true rfl, Nat.le_of_ble_eq_true rfl, Nat.le_of_ble_eq_true rfl, rfl, by decide⟩ (by omega) (th_173 (d := d - 1) (by omega) hI0 (a0 := x213) (a1 := x223)      (by omega) (by omega) ) ?_
                                    rintro _ m224 ⟨rfl, hIm224, gm224⟩
                                    have hFm224 : zFr W_206 m0 m224 := hF0.trans gm224 rfl
                                    have km224_70_822 : m224 70 822 = f1 := (gm224 70 822 rfl).trans ef1
                                    have km224_70_818 : m224 70 818 = f166 := (gm224 70 818 rfl).trans ef166
                                    have km224_70_820 : m224 70 820 = f210 := (gm224 70 820 rfl).trans ef210
                                    show zW E (d) 206 196 [(2, 69), (0, a0), (0, a1), (1, ((0 + x23) + x175)), (9, 0), (1, ((0 + x24) + x176)), (9, 0), (1, x213), (9, 0), (1, x214), (9, 0), (1, ((0 + f166) + f210)), (9, 0), (0, ((((0 + 1) + 1) + 1) + 1)), (1, x217), (9, 0), (1, x218), (9, 0)] [] m224 Q
                                    refine zw_push zr_206_196 ?_
                                    refine zw_R zr_206_197 (by decide) zm_206 (v := (0, 1)) rfl ?_
                                    rw [← hQ]; exact ⟨_, rfl, by omega, by omega, hIm224, hFm224⟩
                                  · intro h225
                                    refine zw_7 zr_206_175 rfl ?_
                                    refine zw_5 zr_206_176 rfl ?_
                                    refine zw_6 zr_206_177 rfl ?_
                                    refine zw_C zr_206_179 (Or.inl rfl) zm_173 rfl rfl ⟨Nat.le_of_ble_eq_true rfl, Nat.le_of_ble_eq_true rfl, Nat.le_of_ble_eq_true rfl, rfl, by decide⟩ (by omega) (th_173 (d := d - 1) (by omega) hI0 (a0 := ((0 + x23) + x175)) (a1 := ((0 + x24) + x176))      (by omega) (by omega) ) ?_
                                    rintro _ m226 ⟨rfl, hIm226, gm226⟩
                                    have hFm226 : zFr W_206 m0 m226 := hF0.trans gm226 rfl
                                    have km226_70_822 : m226 70 822 = f1 := (gm226 70 822 rfl).trans ef1
                                    have km226_70_818 : m226 70 818 = f166 := (gm226 70 818 rfl).trans ef166
                                    have km226_70_820 : m226 70 820 = f210 := (gm226 70 820 rfl).trans ef210
                                    show zW E (d) 206 182 [(2, 69), (0, a0), (0, a1), (1, ((0 + x23) + x175)), (9, 0), (1, ((0 + x24) + x176)), (9, 0), (1, x213), (9, 0), (1, x214), (9, 0), (1, ((0 + f166) + f210)), (9, 0), (0, ((((0 + 1) + 1) + 1) + 1)), (1, x217), (9, 0), (1, x218), (9, 0)] [] m226 Q
                                    refine zw_42 zr_206_182 ?_
                                    refine zw_push zr_206_196 ?_
                                    refine zw_R zr_206_197 (by decide) zm_206 (v := (0, 1)) rfl ?_
                                    rw [← hQ]; exact ⟨_, rfl, by omega, by omega, hIm226, hFm226⟩
                                · intro h227; omega
                              · intro h228; omega
                            · intro h229
                              refine zw_5 zr_206_93 rfl ?_
                              refine zw_6 zr_206_94 rfl ?_
                              refine zw_27 zr_206_96 (by omega) ?_
                              refine zw_13 (L' := [(2, 69), (0, a0), (0, a1), (1, (((0 + x23) + x175) + x217)), (9, 0), (1, ((0 + x24) + x176)), (9, 0), (1, x213), (9, 0), (1, x214), (9, 0), (1, ((0 + f166) + f210)), (9, 0), (0, (((0 + 1) + 1) + 1)), (1, x217), (9, 0), (1, x218), (9, 0)]) zr_206_97 (Nat.le_of_ble_eq_true rfl) rfl ?_
                              refine zw_6 zr_206_98 rfl ?_
                              refine zw_6 zr_206_100 rfl ?_
                              refine zw_27 zr_206_102 (by omega) ?_
                              refine zw_14 (L' := [(2, 69), (0, a0), (0, a1), (1, (((0 + x23) + x175) + x217)), (9, 0), (1, (((0 + x24) + x176) + x218)), (9, 0), (1, x213), (9, 0), (1, x214), (9, 0), (1, ((0 + f166) + f210)), (9, 0), (0, (((0 + 1) + 1) + 1)), (1, x217), (9, 0), (1, x218), (9, 0)]) zr_206_103 (Nat.le_of_ble_eq_true rfl) rfl ?_
                              refine zw_6 zr_206_105 rfl ?_
                              refine zw_6 zr_206_107 rfl ?_
                              refine zw_29h zr_206_109 ?_
                              intro x230 hx230a hx230b
                              refine zw_7 zr_206_110 rfl ?_
                              refine zw_46r (s := 70) zr_206_111 rfl rfl rfl rfl ?_
                              refine zw_push zr_206_114 ?_
                              refine zw_4 zr_206_117 rfl ?_
                              refine zw_16 zr_206_119 (by omega) ?_
                              obtain ⟨f231, ef231⟩ : ∃ v, m0 70 821 = v := ⟨_, rfl⟩
                              have bf231 : 1 ≤ m0 70 821 ∧ m0 70 821 ≤ 9 := ib_70_weight hI0 (by omega)
                              rw [ef231] at bf231
                              refine zw_48k (c := 70) (len := 826) zr_206_120 rfl rfl (by omega) (by omega) (show ((818 + (((0 + 1) + 1) + 1)) : Int).toNat = 821 by omega) ef231 ?_
                              refine zw_36 zr_206_121 ?_
                              refine zw_6 zr_206_122 rfl ?_
                              refine zw_29h zr_206_124 ?_
                              intro x232 hx232a hx232b
                              refine zw_6 zr_206_125 rfl ?_
                              refine zw_29h zr_206_127 ?_
                              intro x233 hx233a hx233b
                              refine zw_27h zr_206_128 ?_
                              intro x234 hx234a hx234b
                              refine zw_14 (L' := [(2, 69), (0, a0), (0, a1), (1, (((0 + x23) + x175) + x217)), (9, 0), (1, (((0 + x24) + x176) + x218)), (9, 0), (1, x234), (9, 0), (1, x214), (9, 0), (1, ((0 + f166) + f210)), (9, 0), (0, (((0 + 1) + 1) + 1)), (1, x217), (9, 0), (1, x218), (9, 0)]) zr_206_129 (Nat.le_of_ble_eq_true rfl) rfl ?_
                              refine zw_6 zr_206_131 rfl ?_
                              refine zw_6 zr_206_133 rfl ?_
                              refine zw_29p (A := 9801) (B := 99) zr_206_135 (by omega) (by omega) (by omega) (by omega) (by decide) ?_
                              intro x235 hx235a hx235b
                              refine zw_14 (L' := [(2, 69), (0, a0), (0, a1), (1, (((0 + x23) + x175) + x217)), (9, 0), (1, (((0 + x24) + x176) + x218)), (9, 0), (1, x234), (9, 0), (1, x235), (9, 0), (1, ((0 + f166) + f210)), (9, 0), (0, (((0 + 1) + 1) + 1)), (1, x217), (9, 0), (1, x218), (9, 0)]) zr_206_136 (Nat.le_of_ble_eq_true rfl) rfl ?_
                              refine zw_6 zr_206_138 rfl ?_
                              refine zw_7 zr_206_140 rfl ?_
                              refine zw_46r (s := 70) zr_206_141 rfl rfl rfl rfl ?_
                              refine zw_push zr_206_144 ?_
                              refine zw_4 zr_206_147 rfl ?_
                              refine zw_16 zr_206_149 (by omega) ?_
                              refine zw_48k (c := 70) (len := 826) zr_206_150 rfl rfl (by omega) (by omega) (show ((818 + (((0 + 1) + 1) + 1)) : Int).toNat = 821 by omega) ef231 ?_
                              refine zw_36 zr_206_151 ?_
                              refine zw_27 zr_206_152 (by omega) ?_
                              refine zw_14 (L' := [(2, 69), (0, a0), (0, a1), (1, (((0 + x23) + x175) + x217)), (9, 0), (1, (((0 + x24) + x176) + x218)), (9, 0), (1, x234), (9, 0), (1, x235), (9, 0), (1, (((0 + f166) + f210) + f231)), (9, 0), (0, (((0 + 1) + 1) + 1)), (1, x217), (9, 0), (1, x218), (9, 0)]) zr_206_153 (Nat.le_of_ble_eq_true rfl) rfl ?_
                              refine zw_15 (c := 1) (L' := [(2, 69), (0, a0), (0, a1), (1, (((0 + x23) + x175) + x217)), (9, 0), (1, (((0 + x24) + x176) + x218)), (9, 0), (1, x234), (9, 0), (1, x235), (9, 0), (1, (((0 + f166) + f210) + f231)), (9, 0), (0, ((((0 + 1) + 1) + 1) + 1)), (1, x217), (9, 0), (1, x218), (9, 0)]) zr_206_155 rfl (by decide) (by omega) rfl ?_
                              refine zw_42 zr_206_158 ?_
                              refine zw_4 zr_206_38 rfl ?_
                              refine zw_push zr_206_40 ?_
                              refine zw_41_3 zr_206_41 ?_ ?_
                              · intro h236
                                refine zw_6 zr_206_161 rfl ?_
                                refine zw_push zr_206_163 ?_
                                refine zw_39_4 zr_206_164 zr_206_165 ?_ ?_
                                · intro h237
                                  refine zw_3 zr_206_171 rfl ?_
                                  refine zw_40_4 zr_206_172 ?_ ?_
                                  · intro h238
                                    refine zw_7 zr_206_185 rfl ?_
                                    refine zw_6 zr_206_186 rfl ?_
                                    refine zw_6 zr_206_188 rfl ?_
                                    refine zw_6 zr_206_190 rfl ?_
                                    refine zw_29p (A := 970299) (B := 27) zr_206_192 (by omega) (by omega) (by omega) (by omega) (by decide) ?_
                                    intro x239 hx239a hx239b
                                    refine zw_C zr_206_193 (Or.inl rfl) zm_173 rfl rfl ⟨Nat.le_of_ble_eq_true rfl, Nat.le_of_ble_eq_true rfl, Nat.le_of_ble_eq_true rfl, rfl, by decide⟩ (by omega) (th_173 (d := d - 1) (by omega) hI0 (a0 := x234) (a1 := x239)      (by omega) (by omega) ) ?_
                                    rintro _ m240 ⟨rfl, hIm240, gm240⟩
                                    have hFm240 : zFr W_206 m0 m240 := hF0.trans gm240 rfl
                                    have km240_70_822 : m240 70 822 = f1 := (gm240 70 822 rfl).trans ef1
                                    have km240_70_818 : m240 70 818 = f166 := (gm240 70 818 rfl).trans ef166
                                    have km240_70_820 : m240 70 820 = f210 := (gm240 70 820 rfl).trans ef210
                                    have km240_70_821 : m240 70 821 = f231 := (gm240 70 821 rfl).trans ef231
                                    show zW E (d) 206 196 [(2, 69), (0, a0), (0, a1), (1, (((0 + x23) + x175) + x217)), (9, 0), (1, (((0 + x24) + x176) + x218)), (9, 0), (1, x234), (9, 0), (1, x235), (9, 0), (1, (((0 + f166) + f210) + f231)), (9, 0), (0, ((((0 + 1) + 1) + 1) + 1)), (1, x217), (9, 0), (1, x218), (9, 0)] [] m240 Q
                                    refine zw_push zr_206_196 ?_
                                    refine zw_R zr_206_197 (by decide) zm_206 (v := (0, 1)) rfl ?_
                                    rw [← hQ]; exact ⟨_, rfl, by omega, by omega, hIm240, hFm240⟩
                                  · intro h241
                                    refine zw_7 zr_206_175 rfl ?_
                                    refine zw_5 zr_206_176 rfl ?_
                                    refine zw_6 zr_206_177 rfl ?_
                                    refine zw_C zr_206_179 (Or.inl rfl) zm_173 rfl rfl ⟨Nat.le_of_ble_eq_true rfl, Nat.le_of_ble_eq_true rfl, Nat.le_of_ble_eq_true rfl, rfl, by decide⟩ (by omega) (th_173 (d := d - 1) (by omega) hI0 (a0 := (((0 + x23) + x175) + x217)) (a1 := (((0 + x24) + x176) + x218))      (by omega) (by omega) ) ?_
                                    rintro _ m242 ⟨rfl, hIm242, gm242⟩
                                    have hFm242 : zFr W_206 m0 m242 := hF0.trans gm242 rfl
                                    have km242_70_822 : m242 70 822 = f1 := (gm242 70 822 rfl).trans ef1
                                    have km242_70_818 : m242 70 818 = f166 := (gm242 70 818 rfl).trans ef166
                                    have km242_70_820 : m242 70 820 = f210 := (gm242 70 820 rfl).trans ef210
                                    have km242_70_821 : m242 70 821 = f231 := (gm242 70 821 rfl).trans ef231
                                    show zW E (d) 206 182 [(2, 69), (0, a0), (0, a1), (1, (((0 + x23) + x175) + x217)), (9, 0), (1, (((0 + x24) + x176) + x218)), (9, 0), (1, x234), (9, 0), (1, x235), (9, 0), (1, (((0 + f166) + f210) + f231)), (9, 0), (0, ((((0 + 1) + 1) + 1) + 1)), (1, x217), (9, 0), (1, x218), (9, 0)] [] m242 Q
                                    refine zw_42 zr_206_182 ?_
                                    refine zw_push zr_206_196 ?_
                                    refine zw_R zr_206_197 (by decide) zm_206 (v := (0, 1)) rfl ?_
                                    rw [← hQ]; exact ⟨_, rfl, by omega, by omega, hIm242, hFm242⟩
                                · intro h243; omega
                              · intro h244; omega
                    · intro h245
                      refine zw_5 zr_206_93 rfl ?_
                      refine zw_6 zr_206_94 rfl ?_
                      refine zw_27 zr_206_96 (by omega) ?_
                      refine zw_13 (L' := [(2, 69), (0, a0), (0, a1), (1, ((0 + x23) + x170)), (9, 0), (1, (0 + x24)), (9, 0), (1, ((0 * x24) + (x167 * 1))), (9, 0), (1, (1 * x24)), (9, 0), (1, (0 + f166)), (9, 0), (0, (0 + 1)), (1, x170), (9, 0), (1, x171), (9, 0)]) zr_206_97 (Nat.le_of_ble_eq_true rfl) rfl ?_
                      refine zw_6 zr_206_98 rfl ?_
                      refine zw_6 zr_206_100 rfl ?_
                      refine zw_27 zr_206_102 (by omega) ?_
                      refine zw_14 (L' := [(2, 69), (0, a0), (0, a1), (1, ((0 + x23) + x170)), (9, 0), (1, ((0 + x24) + x171)), (9, 0), (1, ((0 * x24) + (x167 * 1))), (9, 0), (1, (1 * x24)), (9, 0), (1, (0 + f166)), (9, 0), (0, (0 + 1)), (1, x170), (9, 0), (1, x171), (9, 0)]) zr_206_103 (Nat.le_of_ble_eq_true rfl) rfl ?_
                      refine zw_6 zr_206_105 rfl ?_
                      refine zw_6 zr_206_107 rfl ?_
                      refine zw_29h zr_206_109 ?_
                      intro x246 hx246a hx246b
                      refine zw_7 zr_206_110 rfl ?_
                      refine zw_46r (s := 70) zr_206_111 rfl rfl rfl rfl ?_
                      refine zw_push zr_206_114 ?_
                      refine zw_4 zr_206_117 rfl ?_
                      refine zw_16 zr_206_119 (by omega) ?_
                      obtain ⟨f247, ef247⟩ : ∃ v, m0 70 819 = v := ⟨_, rfl⟩
                      have bf247 : 1 ≤ m0 70 819 ∧ m0 70 819 ≤ 9 := ib_70_weight hI0 (by omega)
                      rw [ef247] at bf247
                      refine zw_48k (c := 70) (len := 826) zr_206_120 rfl rfl (by omega) (by omega) (show ((818 + (0 + 1)) : Int).toNat = 819 by omega) ef247 ?_
                      refine zw_36 zr_206_121 ?_
                      refine zw_6 zr_206_122 rfl ?_
                      refine zw_29h zr_206_124 ?_
                      intro x248 hx248a hx248b
                      refine zw_6 zr_206_125 rfl ?_
                      refine zw_29h zr_206_127 ?_
                      intro x249 hx249a hx249b
                      refine zw_27h zr_206_128 ?_
                      intro x250 hx250a hx250b
                      refine zw_14 (L' := [(2, 69), (0, a0), (0, a1), (1, ((0 + x23) + x170)), (9, 0), (1, ((0 + x24) + x171)), (9, 0), (1, x250), (9, 0), (1, (1 * x24)), (9, 0), (1, (0 + f166)), (9, 0), (0, (0 + 1)), (1, x170), (9, 0), (1, x171), (9, 0)]) zr_206_129 (Nat.le_of_ble_eq_true rfl) rfl ?_
                      refine zw_6 zr_206_131 rfl ?_
                      refine zw_6 zr_206_133 rfl ?_
                      refine zw_29p (A := 99) (B := 99) zr_206_135 (by omega) (by omega) (by omega) (by omega) (by decide) ?_
                      intro x251 hx251a hx251b
                      refine zw_14 (L' := [(2, 69), (0, a0), (0, a1), (1, ((0 + x23) + x170)), (9, 0), (1, ((0 + x24) + x171)), (9, 0), (1, x250), (9, 0), (1, x251), (9, 0), (1, (0 + f166)), (9, 0), (0, (0 + 1)), (1, x170), (9, 0), (1, x171), (9, 0)]) zr_206_136 (Nat.le_of_ble_eq_true rfl) rfl ?_
                      refine zw_6 zr_206_138 rfl ?_
                      refine zw_7 zr_206_140 rfl ?_
                      refine zw_46r (s := 70) zr_206_141 rfl rfl rfl rfl ?_
                      refine zw_push zr_206_144 ?_
                      refine zw_4 zr_206_147 rfl ?_
                      refine zw_16 zr_206_149 (by omega) ?_
                      refine zw_48k (c := 70) (len := 826) zr_206_150 rfl rfl (by omega) (by omega) (show ((818 + (0 + 1)) : Int).toNat = 819 by omega) ef247 ?_
                      refine zw_36 zr_206_151 ?_
                      refine zw_27 zr_206_152 (by omega) ?_
                      refine zw_14 (L' := [(2, 69), (0, a0), (0, a1), (1, ((0 + x23) + x170)), (9, 0), (1, ((0 + x24) + x171)), (9, 0), (1, x250), (9, 0), (1, x251), (9, 0), (1, ((0 + f166) + f247)), (9, 0), (0, (0 + 1)), (1, x170), (9, 0), (1, x171), (9, 0)]) zr_206_153 (Nat.le_of_ble_eq_true rfl) rfl ?_
                      refine zw_15 (c := 1) (L' := [(2, 69), (0, a0), (0, a1), (1, ((0 + x23) + x170)), (9, 0), (1, ((0 + x24) + x171)), (9, 0), (1, x250), (9, 0), (1, x251), (9, 0), (1, ((0 + f166) + f247)), (9, 0), (0, ((0 + 1) + 1)), (1, x170), (9, 0), (1, x171), (9, 0)]) zr_206_155 rfl (by decide) (by omega) rfl ?_
                      refine zw_42 zr_206_158 ?_
                      refine zw_4 zr_206_38 rfl ?_
                      refine zw_push zr_206_40 ?_
                      refine zw_41_3 zr_206_41 ?_ ?_
                      · intro h252; omega
                      · intro h253
                        refine zw_7 zr_206_44 rfl ?_
                        refine zw_46r (s := 70) zr_206_45 rfl rfl rfl rfl ?_
                        refine zw_push zr_206_48 ?_
                        refine zw_push zr_206_50 ?_
                        refine zw_3 zr_206_52 rfl ?_
                        refine zw_18 zr_206_53 (by omega) ?_
                        refine zw_16 zr_206_54 (by omega) ?_
                        refine zw_push zr_206_55 ?_
                        refine zw_4 zr_206_56 rfl ?_
                        refine zw_18 zr_206_58 (by omega) ?_
                        refine zw_16 zr_206_59 (by omega) ?_
                        refine zw_48 (c := 70) (len := 826) zr_206_60 rfl rfl (by omega) (by omega) ?_
                        intro x254 ex254
                        have bx254 := ib_70_moves hI0 (k := (((10 + (8 * a0)) + (2 * ((0 + 1) + 1)))).toNat) (by omega)
                        rw [← ex254] at bx254
                        clear ex254
                        refine zw_36 zr_206_61 ?_
                        refine zw_14 (L' := [(2, 69), (0, a0), (0, a1), (1, ((0 + x23) + x170)), (9, 0), (1, ((0 + x24) + x171)), (9, 0), (1, x250), (9, 0), (1, x251), (9, 0), (1, ((0 + f166) + f247)), (9, 0), (0, ((0 + 1) + 1)), (1, x254), (9, 0), (1, x171), (9, 0)]) zr_206_62 (Nat.le_of_ble_eq_true rfl) rfl ?_
                        refine zw_7 zr_206_64 rfl ?_
                        refine zw_46r (s := 70) zr_206_65 rfl rfl rfl rfl ?_
                        refine zw_push zr_206_68 ?_
                        refine zw_push zr_206_70 ?_
                        refine zw_3 zr_206_72 rfl ?_
                        refine zw_18 zr_206_73 (by omega) ?_
                        refine zw_16 zr_206_74 (by omega) ?_
                        refine zw_push zr_206_75 ?_
                        refine zw_4 zr_206_76 rfl ?_
                        refine zw_18 zr_206_78 (by omega) ?_
                        refine zw_16 zr_206_79 (by omega) ?_
                        refine zw_push zr_206_80 ?_
                        refine zw_16 zr_206_81 (by omega) ?_
                        refine zw_48 (c := 70) (len := 826) zr_206_82 rfl rfl (by omega) (by omega) ?_
                        intro x255 ex255
                        have bx255 := ib_70_moves hI0 (k := ((((10 + (8 * a0)) + (2 * ((0 + 1) + 1))) + 1)).toNat) (by omega)
                        rw [← ex255] at bx255
                        clear ex255
                        refine zw_36 zr_206_83 ?_
                        refine zw_14 (L' := [(2, 69), (0, a0), (0, a1), (1, ((0 + x23) + x170)), (9, 0), (1, ((0 + x24) + x171)), (9, 0), (1, x250), (9, 0), (1, x251), (9, 0), (1, ((0 + f166) + f247)), (9, 0), (0, ((0 + 1) + 1)), (1, x254), (9, 0), (1, x255), (9, 0)]) zr_206_84 (Nat.le_of_ble_eq_true rfl) rfl ?_
                        refine zw_6 zr_206_86 rfl ?_
                        refine zw_push zr_206_88 ?_
                        refine zw_39_5 zr_206_89 zr_206_90 ?_ ?_
                        · intro h256
                          refine zw_15 (c := 1) (L' := [(2, 69), (0, a0), (0, a1), (1, ((0 + x23) + x170)), (9, 0), (1, ((0 + x24) + x171)), (9, 0), (1, x250), (9, 0), (1, x251), (9, 0), (1, ((0 + f166) + f247)), (9, 0), (0, (((0 + 1) + 1) + 1)), (1, x254), (9, 0), (1, x255), (9, 0)]) zr_206_155 rfl (by decide) (by omega) rfl ?_
                          refine zw_42 zr_206_158 ?_
                          refine zw_4 zr_206_38 rfl ?_
                          refine zw_push zr_206_40 ?_
                          refine zw_41_3 zr_206_41 ?_ ?_
                          · intro h257; omega
                          · intro h258
                            refine zw_7 zr_206_44 rfl ?_
                            refine zw_46r (s := 70) zr_206_45 rfl rfl rfl rfl ?_
                            refine zw_push zr_206_48 ?_
                            refine zw_push zr_206_50 ?_
                            refine zw_3 zr_206_52 rfl ?_
                            refine zw_18 zr_206_53 (by omega) ?_
                            refine zw_16 zr_206_54 (by omega) ?_
                            refine zw_push zr_206_55 ?_
                            refine zw_4 zr_206_56 rfl ?_
                            refine zw_18 zr_206_58 (by omega) ?_
                            refine zw_16 zr_206_59 (by omega) ?_
                            refine zw_48 (c := 70) (len := 826) zr_206_60 rfl rfl (by omega) (by omega) ?_
                            intro x259 ex259
                            have bx259 := ib_70_moves hI0 (k := (((10 + (8 * a0)) + (2 * (((0 + 1) + 1) + 1)))).toNat) (by omega)
                            rw [← ex259] at bx259
                            clear ex259
                            refine zw_36 zr_206_61 ?_
                            refine zw_14 (L' := [(2, 69), (0, a0), (0, a1), (1, ((0 + x23) + x170)), (9, 0), (1, ((0 + x24) + x171)), (9, 0), (1, x250), (9, 0), (1, x251), (9, 0), (1, ((0 + f166) + f247)), (9, 0), (0, (((0 + 1) + 1) + 1)), (1, x259), (9, 0), (1, x255), (9, 0)]) zr_206_62 (Nat.le_of_ble_eq_true rfl) rfl ?_
                            refine zw_7 zr_206_64 rfl ?_
                            refine zw_46r (s := 70) zr_206_65 rfl rfl rfl rfl ?_
                            refine zw_push zr_206_68 ?_
                            refine zw_push zr_206_70 ?_
                            refine zw_3 zr_206_72 rfl ?_
                            refine zw_18 zr_206_73 (by omega) ?_
                            refine zw_16 zr_206_74 (by omega) ?_
                            refine zw_push zr_206_75 ?_
                            refine zw_4 zr_206_76 rfl ?_
                            refine zw_18 zr_206_78 (by omega) ?_
                            refine zw_16 zr_206_79 (by omega) ?_
                            refine zw_push zr_206_80 ?_
                            refine zw_16 zr_206_81 (by omega) ?_
                            refine zw_48 (c := 70) (len := 826) zr_206_82 rfl rfl (by omega) (by omega) ?_
                            intro x260 ex260
                            have bx260 := ib_70_moves hI0 (k := ((((10 + (8 * a0)) + (2 * (((0 + 1) + 1) + 1))) + 1)).toNat) (by omega)
                            rw [← ex260] at bx260
                            clear ex260
                            refine zw_36 zr_206_83 ?_
                            refine zw_14 (L' := [(2, 69), (0, a0), (0, a1), (1, ((0 + x23) + x170)), (9, 0), (1, ((0 + x24) + x171)), (9, 0), (1, x250), (9, 0), (1, x251), (9, 0), (1, ((0 + f166) + f247)), (9, 0), (0, (((0 + 1) + 1) + 1)), (1, x259), (9, 0), (1, x260), (9, 0)]) zr_206_84 (Nat.le_of_ble_eq_true rfl) rfl ?_
                            refine zw_6 zr_206_86 rfl ?_
                            refine zw_push zr_206_88 ?_
                            refine zw_39_5 zr_206_89 zr_206_90 ?_ ?_
                            · intro h261
                              refine zw_15 (c := 1) (L' := [(2, 69), (0, a0), (0, a1), (1, ((0 + x23) + x170)), (9, 0), (1, ((0 + x24) + x171)), (9, 0), (1, x250), (9, 0), (1, x251), (9, 0), (1, ((0 + f166) + f247)), (9, 0), (0, ((((0 + 1) + 1) + 1) + 1)), (1, x259), (9, 0), (1, x260), (9, 0)]) zr_206_155 rfl (by decide) (by omega) rfl ?_
                              refine zw_42 zr_206_158 ?_
                              refine zw_4 zr_206_38 rfl ?_
                              refine zw_push zr_206_40 ?_
                              refine zw_41_3 zr_206_41 ?_ ?_
                              · intro h262
                                refine zw_6 zr_206_161 rfl ?_
                                refine zw_push zr_206_163 ?_
                                refine zw_39_4 zr_206_164 zr_206_165 ?_ ?_
                                · intro h263
                                  refine zw_3 zr_206_171 rfl ?_
                                  refine zw_40_4 zr_206_172 ?_ ?_
                                  · intro h264
                                    refine zw_7 zr_206_185 rfl ?_
                                    refine zw_6 zr_206_186 rfl ?_
                                    refine zw_6 zr_206_188 rfl ?_
                                    refine zw_6 zr_206_190 rfl ?_
                                    refine zw_29p (A := 9801) (B := 18) zr_206_192 (by omega) (by omega) (by omega) (by omega) (by decide) ?_
                                    intro x265 hx265a hx265b
                                    refine zw_C zr_206_193 (Or.inl rfl) zm_173 rfl rfl ⟨Nat.le_of_ble_eq_true rfl, Nat.le_of_ble_eq_true rfl, Nat.le_of_ble_eq_true rfl, rfl, by decide⟩ (by omega) (th_173 (d := d - 1) (by omega) hI0 (a0 := x250) (a1 := x265)      (by omega) (by omega) ) ?_
                                    rintro _ m266 ⟨rfl, hIm266, gm266⟩
                                    have hFm266 : zFr W_206 m0 m266 := hF0.trans gm266 rfl
                                    have km266_70_822 : m266 70 822 = f1 := (gm266 70 822 rfl).trans ef1
                                    have km266_70_818 : m266 70 818 = f166 := (gm266 70 818 rfl).trans ef166
                                    have km266_70_819 : m266 70 819 = f247 := (gm266 70 819 rfl).trans ef247
                                    show zW E (d) 206 196 [(2, 69), (0, a0), (0, a1), (1, ((0 + x23) + x170)), (9, 0), (1, ((0 + x24) + x171)), (9, 0), (1, x250), (9, 0), (1, x251), (9, 0), (1, ((0 + f166) + f247)), (9, 0), (0, ((((0 + 1) + 1) + 1) + 1)), (1, x259), (9, 0), (1, x260), (9, 0)] [] m266 Q
                                    refine zw_push zr_206_196 ?_
                                    refine zw_R zr_206_197 (by decide) zm_206 (v := (0, 1)) rfl ?_
                                    rw [← hQ]; exact ⟨_, rfl, by omega, by omega, hIm266, hFm266⟩
                                  · intro h267
                                    refine zw_7 zr_206_175 rfl ?_
                                    refine zw_5 zr_206_176 rfl ?_
                                    refine zw_6 zr_206_177 rfl ?_
                                    refine zw_C zr_206_179 (Or.inl rfl) zm_173 rfl rfl ⟨Nat.le_of_ble_eq_true rfl, Nat.le_of_ble_eq_true rfl, Nat.le_of_ble_eq_true rfl, rfl, by decide⟩ (by omega) (th_173 (d := d - 1) (by omega) hI0 (a0 := ((0 + x23) + x170)) (a1 := ((0 + x24) + x171))      (by omega) (by omega) ) ?_
                                    rintro _ m268 ⟨rfl, hIm268, gm268⟩
                                    have hFm268 : zFr W_206 m0 m268 := hF0.trans gm268 rfl
                                    have km268_70_822 : m268 70 822 = f1 := (gm268 70 822 rfl).trans ef1
                                    have km268_70_818 : m268 70 818 = f166 := (gm268 70 818 rfl).trans ef166
                                    have km268_70_819 : m268 70 819 = f247 := (gm268 70 819 rfl).trans ef247
                                    show zW E (d) 206 182 [(2, 69), (0, a0), (0, a1), (1, ((0 + x23) + x170)), (9, 0), (1, ((0 + x24) + x171)), (9, 0), (1, x250), (9, 0), (1, x251), (9, 0), (1, ((0 + f166) + f247)), (9, 0), (0, ((((0 + 1) + 1) + 1) + 1)), (1, x259), (9, 0), (1, x260), (9, 0)] [] m268 Q
                                    refine zw_42 zr_206_182 ?_
                                    refine zw_push zr_206_196 ?_
                                    refine zw_R zr_206_197 (by decide) zm_206 (v := (0, 1)) rfl ?_
                                    rw [← hQ]; exact ⟨_, rfl, by omega, by omega, hIm268, hFm268⟩
                                · intro h269; omega
                              · intro h270; omega
                            · intro h271
                              refine zw_5 zr_206_93 rfl ?_
                              refine zw_6 zr_206_94 rfl ?_
                              refine zw_27 zr_206_96 (by omega) ?_
                              refine zw_13 (L' := [(2, 69), (0, a0), (0, a1), (1, (((0 + x23) + x170) + x259)), (9, 0), (1, ((0 + x24) + x171)), (9, 0), (1, x250), (9, 0), (1, x251), (9, 0), (1, ((0 + f166) + f247)), (9, 0), (0, (((0 + 1) + 1) + 1)), (1, x259), (9, 0), (1, x260), (9, 0)]) zr_206_97 (Nat.le_of_ble_eq_true rfl) rfl ?_
                              refine zw_6 zr_206_98 rfl ?_
                              refine zw_6 zr_206_100 rfl ?_
                              refine zw_27 zr_206_102 (by omega) ?_
                              refine zw_14 (L' := [(2, 69), (0, a0), (0, a1), (1, (((0 + x23) + x170) + x259)), (9, 0), (1, (((0 + x24) + x171) + x260)), (9, 0), (1, x250), (9, 0), (1, x251), (9, 0), (1, ((0 + f166) + f247)), (9, 0), (0, (((0 + 1) + 1) + 1)), (1, x259), (9, 0), (1, x260), (9, 0)]) zr_206_103 (Nat.le_of_ble_eq_true rfl) rfl ?_
                              refine zw_6 zr_206_105 rfl ?_
                              refine zw_6 zr_206_107 rfl ?_
                              refine zw_29h zr_206_109 ?_
                              intro x272 hx272a hx272b
                              refine zw_7 zr_206_110 rfl ?_
                              refine zw_46r (s := 70) zr_206_111 rfl rfl rfl rfl ?_
                              refine zw_push zr_206_114 ?_
                              refine zw_4 zr_206_117 rfl ?_
                              refine zw_16 zr_206_119 (by omega) ?_
                              obtain ⟨f273, ef273⟩ : ∃ v, m0 70 821 = v := ⟨_, rfl⟩
                              have bf273 : 1 ≤ m0 70 821 ∧ m0 70 821 ≤ 9 := ib_70_weight hI0 (by omega)
                              rw [ef273] at bf273
                              refine zw_48k (c := 70) (len := 826) zr_206_120 rfl rfl (by omega) (by omega) (show ((818 + (((0 + 1) + 1) + 1)) : Int).toNat = 821 by omega) ef273 ?_
                              refine zw_36 zr_206_121 ?_
                              refine zw_6 zr_206_122 rfl ?_
                              refine zw_29h zr_206_124 ?_
                              intro x274 hx274a hx274b
                              refine zw_6 zr_206_125 rfl ?_
                              refine zw_29h zr_206_127 ?_
                              intro x275 hx275a hx275b
                              refine zw_27h zr_206_128 ?_
                              intro x276 hx276a hx276b
                              refine zw_14 (L' := [(2, 69), (0, a0), (0, a1), (1, (((0 + x23) + x170) + x259)), (9, 0), (1, (((0 + x24) + x171) + x260)), (9, 0), (1, x276), (9, 0), (1, x251), (9, 0), (1, ((0 + f166) + f247)), (9, 0), (0, (((0 + 1) + 1) + 1)), (1, x259), (9, 0), (1, x260), (9, 0)]) zr_206_129 (Nat.le_of_ble_eq_true rfl) rfl ?_
                              refine zw_6 zr_206_131 rfl ?_
                              refine zw_6 zr_206_133 rfl ?_
                              refine zw_29p (A := 9801) (B := 99) zr_206_135 (by omega) (by omega) (by omega) (by omega) (by decide) ?_
                              intro x277 hx277a hx277b
                              refine zw_14 (L' := [(2, 69), (0, a0), (0, a1), (1, (((0 + x23) + x170) + x259)), (9, 0), (1, (((0 + x24) + x171) + x260)), (9, 0), (1, x276), (9, 0), (1, x277), (9, 0), (1, ((0 + f166) + f247)), (9, 0), (0, (((0 + 1) + 1) + 1)), (1, x259), (9, 0), (1, x260), (9, 0)]) zr_206_136 (Nat.le_of_ble_eq_true rfl) rfl ?_
                              refine zw_6 zr_206_138 rfl ?_
                              refine zw_7 zr_206_140 rfl ?_
                              refine zw_46r (s := 70) zr_206_141 rfl rfl rfl rfl ?_
                              refine zw_push zr_206_144 ?_
                              refine zw_4 zr_206_147 rfl ?_
                              refine zw_16 zr_206_149 (by omega) ?_
                              refine zw_48k (c := 70) (len := 826) zr_206_150 rfl rfl (by omega) (by omega) (show ((818 + (((0 + 1) + 1) + 1)) : Int).toNat = 821 by omega) ef273 ?_
                              refine zw_36 zr_206_151 ?_
                              refine zw_27 zr_206_152 (by omega) ?_
                              refine zw_14 (L' := [(2, 69), (0, a0), (0, a1), (1, (((0 + x23) + x170) + x259)), (9, 0), (1, (((0 + x24) + x171) + x260)), (9, 0), (1, x276), (9, 0), (1, x277), (9, 0), (1, (((0 + f166) + f247) + f273)), (9, 0), (0, (((0 + 1) + 1) + 1)), (1, x259), (9, 0), (1, x260), (9, 0)]) zr_206_153 (Nat.le_of_ble_eq_true rfl) rfl ?_
                              refine zw_15 (c := 1) (L' := [(2, 69), (0, a0), (0, a1), (1, (((0 + x23) + x170) + x259)), (9, 0), (1, (((0 + x24) + x171) + x260)), (9, 0), (1, x276), (9, 0), (1, x277), (9, 0), (1, (((0 + f166) + f247) + f273)), (9, 0), (0, ((((0 + 1) + 1) + 1) + 1)), (1, x259), (9, 0), (1, x260), (9, 0)]) zr_206_155 rfl (by decide) (by omega) rfl ?_
                              refine zw_42 zr_206_158 ?_
                              refine zw_4 zr_206_38 rfl ?_
                              refine zw_push zr_206_40 ?_
                              refine zw_41_3 zr_206_41 ?_ ?_
                              · intro h278
                                refine zw_6 zr_206_161 rfl ?_
                                refine zw_push zr_206_163 ?_
                                refine zw_39_4 zr_206_164 zr_206_165 ?_ ?_
                                · intro h279
                                  refine zw_3 zr_206_171 rfl ?_
                                  refine zw_40_4 zr_206_172 ?_ ?_
                                  · intro h280
                                    refine zw_7 zr_206_185 rfl ?_
                                    refine zw_6 zr_206_186 rfl ?_
                                    refine zw_6 zr_206_188 rfl ?_
                                    refine zw_6 zr_206_190 rfl ?_
                                    refine zw_29p (A := 970299) (B := 27) zr_206_192 (by omega) (by omega) (by omega) (by omega) (by decide) ?_
                                    intro x281 hx281a hx281b
                                    refine zw_C zr_206_193 (Or.inl rfl) zm_173 rfl rfl ⟨Nat.le_of_ble_eq_true rfl, Nat.le_of_ble_eq_true rfl, Nat.le_of_ble_eq_true rfl, rfl, by decide⟩ (by omega) (th_173 (d := d - 1) (by omega) hI0 (a0 := x276) (a1 := x281)      (by omega) (by omega) ) ?_
                                    rintro _ m282 ⟨rfl, hIm282, gm282⟩
                                    have hFm282 : zFr W_206 m0 m282 := hF0.trans gm282 rfl
                                    have km282_70_822 : m282 70 822 = f1 := (gm282 70 822 rfl).trans ef1
                                    have km282_70_818 : m282 70 818 = f166 := (gm282 70 818 rfl).trans ef166
                                    have km282_70_819 : m282 70 819 = f247 := (gm282 70 819 rfl).trans ef247
                                    have km282_70_821 : m282 70 821 = f273 := (gm282 70 821 rfl).trans ef273
                                    show zW E (d) 206 196 [(2, 69), (0, a0), (0, a1), (1, (((0 + x23) + x170) + x259)), (9, 0), (1, (((0 + x24) + x171) + x260)), (9, 0), (1, x276), (9, 0), (1, x277), (9, 0), (1, (((0 + f166) + f247) + f273)), (9, 0), (0, ((((0 + 1) + 1) + 1) + 1)), (1, x259), (9, 0), (1, x260), (9, 0)] [] m282 Q
                                    refine zw_push zr_206_196 ?_
                                    refine zw_R zr_206_197 (by decide) zm_206 (v := (0, 1)) rfl ?_
                                    rw [← hQ]; exact ⟨_, rfl, by omega, by omega, hIm282, hFm282⟩
                                  · intro h283
                                    refine zw_7 zr_206_175 rfl ?_
                                    refine zw_5 zr_206_176 rfl ?_
                                    refine zw_6 zr_206_177 rfl ?_
                                    refine zw_C zr_206_179 (Or.inl rfl) zm_173 rfl rfl ⟨Nat.le_of_ble_eq_true rfl, Nat.le_of_ble_eq_true rfl, Nat.le_of_ble_eq_true rfl, rfl, by decide⟩ (by omega) (th_173 (d := d - 1) (by omega) hI0 (a0 := (((0 + x23) + x170) + x259)) (a1 := (((0 + x24) + x171) + x260))      (by omega) (by omega) ) ?_
                                    rintro _ m284 ⟨rfl, hIm284, gm284⟩
                                    have hFm284 : zFr W_206 m0 m284 := hF0.trans gm284 rfl
                                    have km284_70_822 : m284 70 822 = f1 := (gm284 70 822 rfl).trans ef1
                                    have km284_70_818 : m284 70 818 = f166 := (gm284 70 818 rfl).trans ef166
                                    have km284_70_819 : m284 70 819 = f247 := (gm284 70 819 rfl).trans ef247
                                    have km284_70_821 : m284 70 821 = f273 := (gm284 70 821 rfl).trans ef273
                                    show zW E (d) 206 182 [(2, 69), (0, a0), (0, a1), (1, (((0 + x23) + x170) + x259)), (9, 0), (1, (((0 + x24) + x171) + x260)), (9, 0), (1, x276), (9, 0), (1, x277), (9, 0), (1, (((0 + f166) + f247) + f273)), (9, 0), (0, ((((0 + 1) + 1) + 1) + 1)), (1, x259), (9, 0), (1, x260), (9, 0)] [] m284 Q
                                    refine zw_42 zr_206_182 ?_
                                    refine zw_push zr_206_196 ?_
                                    refine zw_R zr_206_197 (by decide) zm_206 (v := (0, 1)) rfl ?_
                                    rw [← hQ]; exact ⟨_, rfl, by omega, by omega, hIm284, hFm284⟩
                                · intro h285; omega
                              · intro h286; omega
                        · intro h287
                          refine zw_5 zr_206_93 rfl ?_
                          refine zw_6 zr_206_94 rfl ?_
                          refine zw_27 zr_206_96 (by omega) ?_
                          refine zw_13 (L' := [(2, 69), (0, a0), (0, a1), (1, (((0 + x23) + x170) + x254)), (9, 0), (1, ((0 + x24) + x171)), (9, 0), (1, x250), (9, 0), (1, x251), (9, 0), (1, ((0 + f166) + f247)), (9, 0), (0, ((0 + 1) + 1)), (1, x254), (9, 0), (1, x255), (9, 0)]) zr_206_97 (Nat.le_of_ble_eq_true rfl) rfl ?_
                          refine zw_6 zr_206_98 rfl ?_
                          refine zw_6 zr_206_100 rfl ?_
                          refine zw_27 zr_206_102 (by omega) ?_
                          refine zw_14 (L' := [(2, 69), (0, a0), (0, a1), (1, (((0 + x23) + x170) + x254)), (9, 0), (1, (((0 + x24) + x171) + x255)), (9, 0), (1, x250), (9, 0), (1, x251), (9, 0), (1, ((0 + f166) + f247)), (9, 0), (0, ((0 + 1) + 1)), (1, x254), (9, 0), (1, x255), (9, 0)]) zr_206_103 (Nat.le_of_ble_eq_true rfl) rfl ?_
                          refine zw_6 zr_206_105 rfl ?_
                          refine zw_6 zr_206_107 rfl ?_
                          refine zw_29h zr_206_109 ?_
                          intro x288 hx288a hx288b
                          refine zw_7 zr_206_110 rfl ?_
                          refine zw_46r (s := 70) zr_206_111 rfl rfl rfl rfl ?_
                          refine zw_push zr_206_114 ?_
                          refine zw_4 zr_206_117 rfl ?_
                          refine zw_16 zr_206_119 (by omega) ?_
                          obtain ⟨f289, ef289⟩ : ∃ v, m0 70 820 = v := ⟨_, rfl⟩
                          have bf289 : 1 ≤ m0 70 820 ∧ m0 70 820 ≤ 9 := ib_70_weight hI0 (by omega)
                          rw [ef289] at bf289
                          refine zw_48k (c := 70) (len := 826) zr_206_120 rfl rfl (by omega) (by omega) (show ((818 + ((0 + 1) + 1)) : Int).toNat = 820 by omega) ef289 ?_
                          refine zw_36 zr_206_121 ?_
                          refine zw_6 zr_206_122 rfl ?_
                          refine zw_29h zr_206_124 ?_
                          intro x290 hx290a hx290b
                          refine zw_6 zr_206_125 rfl ?_
                          refine zw_29h zr_206_127 ?_
                          intro x291 hx291a hx291b
                          refine zw_27h zr_206_128 ?_
                          intro x292 hx292a hx292b
                          refine zw_14 (L' := [(2, 69), (0, a0), (0, a1), (1, (((0 + x23) + x170) + x254)), (9, 0), (1, (((0 + x24) + x171) + x255)), (9, 0), (1, x292), (9, 0), (1, x251), (9, 0), (1, ((0 + f166) + f247)), (9, 0), (0, ((0 + 1) + 1)), (1, x254), (9, 0), (1, x255), (9, 0)]) zr_206_129 (Nat.le_of_ble_eq_true rfl) rfl ?_
                          refine zw_6 zr_206_131 rfl ?_
                          refine zw_6 zr_206_133 rfl ?_
                          refine zw_29p (A := 9801) (B := 99) zr_206_135 (by omega) (by omega) (by omega) (by omega) (by decide) ?_
                          intro x293 hx293a hx293b
                          refine zw_14 (L' := [(2, 69), (0, a0), (0, a1), (1, (((0 + x23) + x170) + x254)), (9, 0), (1, (((0 + x24) + x171) + x255)), (9, 0), (1, x292), (9, 0), (1, x293), (9, 0), (1, ((0 + f166) + f247)), (9, 0), (0, ((0 + 1) + 1)), (1, x254), (9, 0), (1, x255), (9, 0)]) zr_206_136 (Nat.le_of_ble_eq_true rfl) rfl ?_
                          refine zw_6 zr_206_138 rfl ?_
                          refine zw_7 zr_206_140 rfl ?_
                          refine zw_46r (s := 70) zr_206_141 rfl rfl rfl rfl ?_
                          refine zw_push zr_206_144 ?_
                          refine zw_4 zr_206_147 rfl ?_
                          refine zw_16 zr_206_149 (by omega) ?_
                          refine zw_48k (c := 70) (len := 826) zr_206_150 rfl rfl (by omega) (by omega) (show ((818 + ((0 + 1) + 1)) : Int).toNat = 820 by omega) ef289 ?_
                          refine zw_36 zr_206_151 ?_
                          refine zw_27 zr_206_152 (by omega) ?_
                          refine zw_14 (L' := [(2, 69), (0, a0), (0, a1), (1, (((0 + x23) + x170) + x254)), (9, 0), (1, (((0 + x24) + x171) + x255)), (9, 0), (1, x292), (9, 0), (1, x293), (9, 0), (1, (((0 + f166) + f247) + f289)), (9, 0), (0, ((0 + 1) + 1)), (1, x254), (9, 0), (1, x255), (9, 0)]) zr_206_153 (Nat.le_of_ble_eq_true rfl) rfl ?_
                          refine zw_15 (c := 1) (L' := [(2, 69), (0, a0), (0, a1), (1, (((0 + x23) + x170) + x254)), (9, 0), (1, (((0 + x24) + x171) + x255)), (9, 0), (1, x292), (9, 0), (1, x293), (9, 0), (1, (((0 + f166) + f247) + f289)), (9, 0), (0, (((0 + 1) + 1) + 1)), (1, x254), (9, 0), (1, x255), (9, 0)]) zr_206_155 rfl (by decide) (by omega) rfl ?_
                          refine zw_42 zr_206_158 ?_
                          refine zw_4 zr_206_38 rfl ?_
                          refine zw_push zr_206_40 ?_
                          refine zw_41_3 zr_206_41 ?_ ?_
                          · intro h294; omega
                          · intro h295
                            refine zw_7 zr_206_44 rfl ?_
                            refine zw_46r (s := 70) zr_206_45 rfl rfl rfl rfl ?_
                            refine zw_push zr_206_48 ?_
                            refine zw_push zr_206_50 ?_
                            refine zw_3 zr_206_52 rfl ?_
                            refine zw_18 zr_206_53 (by omega) ?_
                            refine zw_16 zr_206_54 (by omega) ?_
                            refine zw_push zr_206_55 ?_
                            refine zw_4 zr_206_56 rfl ?_
                            refine zw_18 zr_206_58 (by omega) ?_
                            refine zw_16 zr_206_59 (by omega) ?_
                            refine zw_48 (c := 70) (len := 826) zr_206_60 rfl rfl (by omega) (by omega) ?_
                            intro x296 ex296
                            have bx296 := ib_70_moves hI0 (k := (((10 + (8 * a0)) + (2 * (((0 + 1) + 1) + 1)))).toNat) (by omega)
                            rw [← ex296] at bx296
                            clear ex296
                            refine zw_36 zr_206_61 ?_
                            refine zw_14 (L' := [(2, 69), (0, a0), (0, a1), (1, (((0 + x23) + x170) + x254)), (9, 0), (1, (((0 + x24) + x171) + x255)), (9, 0), (1, x292), (9, 0), (1, x293), (9, 0), (1, (((0 + f166) + f247) + f289)), (9, 0), (0, (((0 + 1) + 1) + 1)), (1, x296), (9, 0), (1, x255), (9, 0)]) zr_206_62 (Nat.le_of_ble_eq_true rfl) rfl ?_
                            refine zw_7 zr_206_64 rfl ?_
                            refine zw_46r (s := 70) zr_206_65 rfl rfl rfl rfl ?_
                            refine zw_push zr_206_68 ?_
                            refine zw_push zr_206_70 ?_
                            refine zw_3 zr_206_72 rfl ?_
                            refine zw_18 zr_206_73 (by omega) ?_
                            refine zw_16 zr_206_74 (by omega) ?_
                            refine zw_push zr_206_75 ?_
                            refine zw_4 zr_206_76 rfl ?_
                            refine zw_18 zr_206_78 (by omega) ?_
                            refine zw_16 zr_206_79 (by omega) ?_
                            refine zw_push zr_206_80 ?_
                            refine zw_16 zr_206_81 (by omega) ?_
                            refine zw_48 (c := 70) (len := 826) zr_206_82 rfl rfl (by omega) (by omega) ?_
                            intro x297 ex297
                            have bx297 := ib_70_moves hI0 (k := ((((10 + (8 * a0)) + (2 * (((0 + 1) + 1) + 1))) + 1)).toNat) (by omega)
                            rw [← ex297] at bx297
                            clear ex297
                            refine zw_36 zr_206_83 ?_
                            refine zw_14 (L' := [(2, 69), (0, a0), (0, a1), (1, (((0 + x23) + x170) + x254)), (9, 0), (1, (((0 + x24) + x171) + x255)), (9, 0), (1, x292), (9, 0), (1, x293), (9, 0), (1, (((0 + f166) + f247) + f289)), (9, 0), (0, (((0 + 1) + 1) + 1)), (1, x296), (9, 0), (1, x297), (9, 0)]) zr_206_84 (Nat.le_of_ble_eq_true rfl) rfl ?_
                            refine zw_6 zr_206_86 rfl ?_
                            refine zw_push zr_206_88 ?_
                            refine zw_39_5 zr_206_89 zr_206_90 ?_ ?_
                            · intro h298
                              refine zw_15 (c := 1) (L' := [(2, 69), (0, a0), (0, a1), (1, (((0 + x23) + x170) + x254)), (9, 0), (1, (((0 + x24) + x171) + x255)), (9, 0), (1, x292), (9, 0), (1, x293), (9, 0), (1, (((0 + f166) + f247) + f289)), (9, 0), (0, ((((0 + 1) + 1) + 1) + 1)), (1, x296), (9, 0), (1, x297), (9, 0)]) zr_206_155 rfl (by decide) (by omega) rfl ?_
                              refine zw_42 zr_206_158 ?_
                              refine zw_4 zr_206_38 rfl ?_
                              refine zw_push zr_206_40 ?_
                              refine zw_41_3 zr_206_41 ?_ ?_
                              · intro h299
                                refine zw_6 zr_206_161 rfl ?_
                                refine zw_push zr_206_163 ?_
                                refine zw_39_4 zr_206_164 zr_206_165 ?_ ?_
                                · intro h300
                                  refine zw_3 zr_206_171 rfl ?_
                                  refine zw_40_4 zr_206_172 ?_ ?_
                                  · intro h301
                                    refine zw_7 zr_206_185 rfl ?_
                                    refine zw_6 zr_206_186 rfl ?_
                                    refine zw_6 zr_206_188 rfl ?_
                                    refine zw_6 zr_206_190 rfl ?_
                                    refine zw_29p (A := 970299) (B := 27) zr_206_192 (by omega) (by omega) (by omega) (by omega) (by decide) ?_
                                    intro x302 hx302a hx302b
                                    refine zw_C zr_206_193 (Or.inl rfl) zm_173 rfl rfl ⟨Nat.le_of_ble_eq_true rfl, Nat.le_of_ble_eq_true rfl, Nat.le_of_ble_eq_true rfl, rfl, by decide⟩ (by omega) (th_173 (d := d - 1) (by omega) hI0 (a0 := x292) (a1 := x302)      (by omega) (by omega) ) ?_
                                    rintro _ m303 ⟨rfl, hIm303, gm303⟩
                                    have hFm303 : zFr W_206 m0 m303 := hF0.trans gm303 rfl
                                    have km303_70_822 : m303 70 822 = f1 := (gm303 70 822 rfl).trans ef1
                                    have km303_70_818 : m303 70 818 = f166 := (gm303 70 818 rfl).trans ef166
                                    have km303_70_819 : m303 70 819 = f247 := (gm303 70 819 rfl).trans ef247
                                    have km303_70_820 : m303 70 820 = f289 := (gm303 70 820 rfl).trans ef289
                                    show zW E (d) 206 196 [(2, 69), (0, a0), (0, a1), (1, (((0 + x23) + x170) + x254)), (9, 0), (1, (((0 + x24) + x171) + x255)), (9, 0), (1, x292), (9, 0), (1, x293), (9, 0), (1, (((0 + f166) + f247) + f289)), (9, 0), (0, ((((0 + 1) + 1) + 1) + 1)), (1, x296), (9, 0), (1, x297), (9, 0)] [] m303 Q
                                    refine zw_push zr_206_196 ?_
                                    refine zw_R zr_206_197 (by decide) zm_206 (v := (0, 1)) rfl ?_
                                    rw [← hQ]; exact ⟨_, rfl, by omega, by omega, hIm303, hFm303⟩
                                  · intro h304
                                    refine zw_7 zr_206_175 rfl ?_
                                    refine zw_5 zr_206_176 rfl ?_
                                    refine zw_6 zr_206_177 rfl ?_
                                    refine zw_C zr_206_179 (Or.inl rfl) zm_173 rfl rfl ⟨Nat.le_of_ble_eq_true rfl, Nat.le_of_ble_eq_true rfl, Nat.le_of_ble_eq_true rfl, rfl, by decide⟩ (by omega) (th_173 (d := d - 1) (by omega) hI0 (a0 := (((0 + x23) + x170) + x254)) (a1 := (((0 + x24) + x171) + x255))      (by omega) (by omega) ) ?_
                                    rintro _ m305 ⟨rfl, hIm305, gm305⟩
                                    have hFm305 : zFr W_206 m0 m305 := hF0.trans gm305 rfl
                                    have km305_70_822 : m305 70 822 = f1 := (gm305 70 822 rfl).trans ef1
                                    have km305_70_818 : m305 70 818 = f166 := (gm305 70 818 rfl).trans ef166
                                    have km305_70_819 : m305 70 819 = f247 := (gm305 70 819 rfl).trans ef247
                                    have km305_70_820 : m305 70 820 = f289 := (gm305 70 820 rfl).trans ef289
                                    show zW E (d) 206 182 [(2, 69), (0, a0), (0, a1), (1, (((0 + x23) + x170) + x254)), (9, 0), (1, (((0 + x24) + x171) + x255)), (9, 0), (1, x292), (9, 0), (1, x293), (9, 0), (1, (((0 + f166) + f247) + f289)), (9, 0), (0, ((((0 + 1) + 1) + 1) + 1)), (1, x296), (9, 0), (1, x297), (9, 0)] [] m305 Q
                                    refine zw_42 zr_206_182 ?_
                                    refine zw_push zr_206_196 ?_
                                    refine zw_R zr_206_197 (by decide) zm_206 (v := (0, 1)) rfl ?_
                                    rw [← hQ]; exact ⟨_, rfl, by omega, by omega, hIm305, hFm305⟩
                                · intro h306; omega
                              · intro h307; omega
                            · intro h308
                              refine zw_5 zr_206_93 rfl ?_
                              refine zw_6 zr_206_94 rfl ?_
                              refine zw_27 zr_206_96 (by omega) ?_
                              refine zw_13 (L' := [(2, 69), (0, a0), (0, a1), (1, ((((0 + x23) + x170) + x254) + x296)), (9, 0), (1, (((0 + x24) + x171) + x255)), (9, 0), (1, x292), (9, 0), (1, x293), (9, 0), (1, (((0 + f166) + f247) + f289)), (9, 0), (0, (((0 + 1) + 1) + 1)), (1, x296), (9, 0), (1, x297), (9, 0)]) zr_206_97 (Nat.le_of_ble_eq_true rfl) rfl ?_
                              refine zw_6 zr_206_98 rfl ?_
                              refine zw_6 zr_206_100 rfl ?_
                              refine zw_27 zr_206_102 (by omega) ?_
                              refine zw_14 (L' := [(2, 69), (0, a0), (0, a1), (1, ((((0 + x23) + x170) + x254) + x296)), (9, 0), (1, ((((0 + x24) + x171) + x255) + x297)), (9, 0), (1, x292), (9, 0), (1, x293), (9, 0), (1, (((0 + f166) + f247) + f289)), (9, 0), (0, (((0 + 1) + 1) + 1)), (1, x296), (9, 0), (1, x297), (9, 0)]) zr_206_103 (Nat.le_of_ble_eq_true rfl) rfl ?_
                              refine zw_6 zr_206_105 rfl ?_
                              refine zw_6 zr_206_107 rfl ?_
                              refine zw_29h zr_206_109 ?_
                              intro x309 hx309a hx309b
                              refine zw_7 zr_206_110 rfl ?_
                              refine zw_46r (s := 70) zr_206_111 rfl rfl rfl rfl ?_
                              refine zw_push zr_206_114 ?_
                              refine zw_4 zr_206_117 rfl ?_
                              refine zw_16 zr_206_119 (by omega) ?_
                              obtain ⟨f310, ef310⟩ : ∃ v, m0 70 821 = v := ⟨_, rfl⟩
                              have bf310 : 1 ≤ m0 70 821 ∧ m0 70 821 ≤ 9 := ib_70_weight hI0 (by omega)
                              rw [ef310] at bf310
                              refine zw_48k (c := 70) (len := 826) zr_206_120 rfl rfl (by omega) (by omega) (show ((818 + (((0 + 1) + 1) + 1)) : Int).toNat = 821 by omega) ef310 ?_
                              refine zw_36 zr_206_121 ?_
                              refine zw_6 zr_206_122 rfl ?_
                              refine zw_29h zr_206_124 ?_
                              intro x311 hx311a hx311b
                              refine zw_6 zr_206_125 rfl ?_
                              refine zw_29h zr_206_127 ?_
                              intro x312 hx312a hx312b
                              refine zw_27h zr_206_128 ?_
                              intro x313 hx313a hx313b
                              refine zw_14 (L' := [(2, 69), (0, a0), (0, a1), (1, ((((0 + x23) + x170) + x254) + x296)), (9, 0), (1, ((((0 + x24) + x171) + x255) + x297)), (9, 0), (1, x313), (9, 0), (1, x293), (9, 0), (1, (((0 + f166) + f247) + f289)), (9, 0), (0, (((0 + 1) + 1) + 1)), (1, x296), (9, 0), (1, x297), (9, 0)]) zr_206_129 (Nat.le_of_ble_eq_true rfl) rfl ?_
                              refine zw_6 zr_206_131 rfl ?_
                              refine zw_6 zr_206_133 rfl ?_
                              refine zw_29p (A := 970299) (B := 99) zr_206_135 (by omega) (by omega) (by omega) (by omega) (by decide) ?_
                              intro x314 hx314a hx314b
                              refine zw_14 (L' := [(2, 69), (0, a0), (0, a1), (1, ((((0 + x23) + x170) + x254) + x296)), (9, 0), (1, ((((0 + x24) + x171) + x255) + x297)), (9, 0), (1, x313), (9, 0), (1, x314), (9, 0), (1, (((0 + f166) + f247) + f289)), (9, 0), (0, (((0 + 1) + 1) + 1)), (1, x296), (9, 0), (1, x297), (9, 0)]) zr_206_136 (Nat.le_of_ble_eq_true rfl) rfl ?_
                              refine zw_6 zr_206_138 rfl ?_
                              refine zw_7 zr_206_140 rfl ?_
                              refine zw_46r (s := 70) zr_206_141 rfl rfl rfl rfl ?_
                              refine zw_push zr_206_144 ?_
                              refine zw_4 zr_206_147 rfl ?_
                              refine zw_16 zr_206_149 (by omega) ?_
                              refine zw_48k (c := 70) (len := 826) zr_206_150 rfl rfl (by omega) (by omega) (show ((818 + (((0 + 1) + 1) + 1)) : Int).toNat = 821 by omega) ef310 ?_
                              refine zw_36 zr_206_151 ?_
                              refine zw_27 zr_206_152 (by omega) ?_
                              refine zw_14 (L' := [(2, 69), (0, a0), (0, a1), (1, ((((0 + x23) + x170) + x254) + x296)), (9, 0), (1, ((((0 + x24) + x171) + x255) + x297)), (9, 0), (1, x313), (9, 0), (1, x314), (9, 0), (1, ((((0 + f166) + f247) + f289) + f310)), (9, 0), (0, (((0 + 1) + 1) + 1)), (1, x296), (9, 0), (1, x297), (9, 0)]) zr_206_153 (Nat.le_of_ble_eq_true rfl) rfl ?_
                              refine zw_15 (c := 1) (L' := [(2, 69), (0, a0), (0, a1), (1, ((((0 + x23) + x170) + x254) + x296)), (9, 0), (1, ((((0 + x24) + x171) + x255) + x297)), (9, 0), (1, x313), (9, 0), (1, x314), (9, 0), (1, ((((0 + f166) + f247) + f289) + f310)), (9, 0), (0, ((((0 + 1) + 1) + 1) + 1)), (1, x296), (9, 0), (1, x297), (9, 0)]) zr_206_155 rfl (by decide) (by omega) rfl ?_
                              refine zw_42 zr_206_158 ?_
                              refine zw_4 zr_206_38 rfl ?_
                              refine zw_push zr_206_40 ?_
                              refine zw_41_3 zr_206_41 ?_ ?_
                              · intro h315
                                refine zw_6 zr_206_161 rfl ?_
                                refine zw_push zr_206_163 ?_
                                refine zw_39_4 zr_206_164 zr_206_165 ?_ ?_
                                · intro h316
                                  refine zw_3 zr_206_171 rfl ?_
                                  refine zw_40_4 zr_206_172 ?_ ?_
                                  · intro h317
                                    refine zw_7 zr_206_185 rfl ?_
                                    refine zw_6 zr_206_186 rfl ?_
                                    refine zw_6 zr_206_188 rfl ?_
                                    refine zw_6 zr_206_190 rfl ?_
                                    refine zw_29p (A := 96059601) (B := 36) zr_206_192 (by omega) (by omega) (by omega) (by omega) (by decide) ?_
                                    intro x318 hx318a hx318b
                                    refine zw_C zr_206_193 (Or.inl rfl) zm_173 rfl rfl ⟨Nat.le_of_ble_eq_true rfl, Nat.le_of_ble_eq_true rfl, Nat.le_of_ble_eq_true rfl, rfl, by decide⟩ (by omega) (th_173 (d := d - 1) (by omega) hI0 (a0 := x313) (a1 := x318)      (by omega) (by omega) ) ?_
                                    rintro _ m319 ⟨rfl, hIm319, gm319⟩
                                    have hFm319 : zFr W_206 m0 m319 := hF0.trans gm319 rfl
                                    have km319_70_822 : m319 70 822 = f1 := (gm319 70 822 rfl).trans ef1
                                    have km319_70_818 : m319 70 818 = f166 := (gm319 70 818 rfl).trans ef166
                                    have km319_70_819 : m319 70 819 = f247 := (gm319 70 819 rfl).trans ef247
                                    have km319_70_820 : m319 70 820 = f289 := (gm319 70 820 rfl).trans ef289
                                    have km319_70_821 : m319 70 821 = f310 := (gm319 70 821 rfl).trans ef310
                                    show zW E (d) 206 196 [(2, 69), (0, a0), (0, a1), (1, ((((0 + x23) + x170) + x254) + x296)), (9, 0), (1, ((((0 + x24) + x171) + x255) + x297)), (9, 0), (1, x313), (9, 0), (1, x314), (9, 0), (1, ((((0 + f166) + f247) + f289) + f310)), (9, 0), (0, ((((0 + 1) + 1) + 1) + 1)), (1, x296), (9, 0), (1, x297), (9, 0)] [] m319 Q
                                    refine zw_push zr_206_196 ?_
                                    refine zw_R zr_206_197 (by decide) zm_206 (v := (0, 1)) rfl ?_
                                    rw [← hQ]; exact ⟨_, rfl, by omega, by omega, hIm319, hFm319⟩
                                  · intro h320
                                    refine zw_7 zr_206_175 rfl ?_
                                    refine zw_5 zr_206_176 rfl ?_
                                    refine zw_6 zr_206_177 rfl ?_
                                    refine zw_C zr_206_179 (Or.inl rfl) zm_173 rfl rfl ⟨Nat.le_of_ble_eq_true rfl, Nat.le_of_ble_eq_true rfl, Nat.le_of_ble_eq_true rfl, rfl, by decide⟩ (by omega) (th_173 (d := d - 1) (by omega) hI0 (a0 := ((((0 + x23) + x170) + x254) + x296)) (a1 := ((((0 + x24) + x171) + x255) + x297))      (by omega) (by omega) ) ?_
                                    rintro _ m321 ⟨rfl, hIm321, gm321⟩
                                    have hFm321 : zFr W_206 m0 m321 := hF0.trans gm321 rfl
                                    have km321_70_822 : m321 70 822 = f1 := (gm321 70 822 rfl).trans ef1
                                    have km321_70_818 : m321 70 818 = f166 := (gm321 70 818 rfl).trans ef166
                                    have km321_70_819 : m321 70 819 = f247 := (gm321 70 819 rfl).trans ef247
                                    have km321_70_820 : m321 70 820 = f289 := (gm321 70 820 rfl).trans ef289
                                    have km321_70_821 : m321 70 821 = f310 := (gm321 70 821 rfl).trans ef310
                                    show zW E (d) 206 182 [(2, 69), (0, a0), (0, a1), (1, ((((0 + x23) + x170) + x254) + x296)), (9, 0), (1, ((((0 + x24) + x171) + x255) + x297)), (9, 0), (1, x313), (9, 0), (1, x314), (9, 0), (1, ((((0 + f166) + f247) + f289) + f310)), (9, 0), (0, ((((0 + 1) + 1) + 1) + 1)), (1, x296), (9, 0), (1, x297), (9, 0)] [] m321 Q
                                    refine zw_42 zr_206_182 ?_
                                    refine zw_push zr_206_196 ?_
                                    refine zw_R zr_206_197 (by decide) zm_206 (v := (0, 1)) rfl ?_
                                    rw [← hQ]; exact ⟨_, rfl, by omega, by omega, hIm321, hFm321⟩
                                · intro h322; omega
                              · intro h323; omega
            · intro h324; omega
