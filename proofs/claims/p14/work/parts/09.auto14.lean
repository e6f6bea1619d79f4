set_option maxHeartbeats 8000000 in
theorem th_56 {E : zE} {d : Nat} {m0 : zM} {a0 : Int} {a1 : Int} {F6 : Nat → Int} {F7 : Nat → Int} (hd : 2 ≤ d) (hI0 : zInv m0) (hG6 : m0 6 = F6) (hG7 : m0 7 = F7) (ha0 : 0 ≤ a0 ∧ a0 ≤ 9) (ha1 : 0 ≤ a1 ∧ a1 ≤ 9) : zC E d 56 [(2, 1), (0, a0), (0, a1)] m0 (fun v m' => ∃ r : Int, v = (0, r) ∧ 0 ≤ r ∧ r ≤ 60 ∧ m0 = m' ∧ (r = mtc F6 F7 a0 a1 (m0 1 1).toNat)) := by
  generalize hQ : (fun (v : zV) (m' : zM) => ∃ r : Int, v = (0, r) ∧ 0 ≤ r ∧ r ≤ 60 ∧ m0 = m' ∧ (r = mtc F6 F7 a0 a1 (m0 1 1).toNat)) = Q
  show zW E d 56 0 [(2, 1), (0, a0), (0, a1), (9, 0), (9, 0)] [] m0 Q
  refine zw_push zr_56_0 ?_
  refine zw_9 (L' := [(2, 1), (0, a0), (0, a1), (0, 0), (9, 0)]) zr_56_1 (Nat.le_of_ble_eq_true rfl) rfl ?_
  refine zw_push zr_56_2 ?_
  refine zw_10 (L' := [(2, 1), (0, a0), (0, a1), (0, 0), (0, 0)]) zr_56_3 (Nat.le_of_ble_eq_true rfl) rfl ?_
  have lp5_3 : ∀ (nlp5_3 : Nat) (i1 i2 : Int), 0 ≤ i1 → i1 ≤ 60 → 0 ≤ i2 → i2 ≤ 60 → (i1 ≤ i2) → (i1 = mtc F6 F7 a0 a1 (i2).toNat) → (i2 ≤ m0 1 1) → (60 - i2).toNat < nlp5_3 → zW E (d) 56 5 [(2, 1), (0, a0), (0, a1), (0, i1), (0, i2)] [] m0 Q := by
    intro nlp5_3
    induction nlp5_3 with
    | zero =>
      intros
      exact absurd (by assumption : _ < 0) (Nat.not_lt_zero _)
    | succ nlp5_3 ihlp5_3 =>
      intro i1 i2 li1 ui1 li2 ui2 hv0lp5_3 hv1lp5_3 hv2lp5_3 hmlp5_3
      have z5 := zmt F6 F7 a0 a1 (i2).toNat (i2 + 1).toNat (by omega)
      refine zw_4 zr_56_5 rfl ?_
      refine zw_7 zr_56_7 rfl ?_
      obtain ⟨f6, ef6⟩ : ∃ v, m0 1 1 = v := ⟨_, rfl⟩
      have bf6 := ib_1_1 hI0
      rw [ef6] at bf6
      refine zw_46i zr_56_8 ef6 rfl rfl rfl ?_
      refine zw_41_3 zr_56_11 ?_ ?_
      · intro h7
        refine zw_3 zr_56_43 rfl ?_
        refine zw_R zr_56_44 (by decide) zm_56 (v := (0, i1)) rfl ?_
        rw [← hQ]; exact ⟨_, rfl, by omega, by omega, rfl, by rw [show m0 1 1 = i2 by omega]; omega⟩
      · intro h9
        refine zw_7 zr_56_14 rfl ?_
        refine zw_4 zr_56_15 rfl ?_
        refine zw_3 zr_56_17 rfl ?_
        refine zw_C zr_56_18 (Or.inl rfl) zm_44 rfl rfl ⟨Nat.le_of_ble_eq_true rfl, Nat.le_of_ble_eq_true rfl, Nat.le_of_ble_eq_true rfl, rfl, by decide⟩ (by omega) (P := (fun v m' => zW E (d) 56 21 [(2, 1), (0, a0), (0, a1), (0, i1), (0, i2)] (if v.1 = 9 then [] else v :: []) m' Q)) ?_ (fun _ _ h => h)
        generalize hQ1 : (fun v m' => zW E (d) 56 21 [(2, 1), (0, a0), (0, a1), (0, i1), (0, i2)] (if v.1 = 9 then [] else v :: []) m' Q) = Q1
        show zW E (d - 1) 44 0 [(2, 1), (0, i2), (0, a0)] [] m0 Q1
        refine zw_7 zr_44_0 rfl ?_
        refine zw_46r (s := 6) zr_44_1 rfl rfl rfl rfl ?_
        refine zw_3 zr_44_4 rfl ?_
        refine zw_48 (c := 6) (len := 60) zr_44_5 rfl rfl (by omega) (by omega) ?_
        intro x10 ex10
        have bx10 := ib_6 hI0 (k := (i2).toNat) (by omega)
        rw [← ex10] at bx10
        have qx10 : x10 = F6 (i2).toNat := by rw [← hG6]; exact ex10
        refine zw_3 zr_44_6 rfl ?_
        refine zw_41_1 zr_44_7 ?_ ?_
        · intro h11
          refine zw_push zr_44_20 ?_
          refine zw_42 zr_44_21 ?_
          refine zw_R zr_44_25 (by decide) zm_44 (v := (0, 1)) (zRetB (by omega)) ?_
          rw [← hQ1]
          show zW E (d) 56 21 [(2, 1), (0, a0), (0, a1), (0, i1), (0, i2)] [(0, 1)] m0 Q
          refine zw_40_1 zr_56_21 ?_ ?_
          · intro h12; omega
          · intro h13
            refine zw_7 zr_56_24 rfl ?_
            refine zw_4 zr_56_25 rfl ?_
            refine zw_3 zr_56_27 rfl ?_
            refine zw_C zr_56_28 (Or.inl rfl) zm_44 rfl rfl ⟨Nat.le_of_ble_eq_true rfl, Nat.le_of_ble_eq_true rfl, Nat.le_of_ble_eq_true rfl, rfl, by decide⟩ (by omega) (P := (fun v m' => zW E (d) 56 31 [(2, 1), (0, a0), (0, a1), (0, i1), (0, i2)] (if v.1 = 9 then [] else v :: []) m' Q)) ?_ (fun _ _ h => h)
            generalize hQ1 : (fun v m' => zW E (d) 56 31 [(2, 1), (0, a0), (0, a1), (0, i1), (0, i2)] (if v.1 = 9 then [] else v :: []) m' Q) = Q1
            show zW E (d - 1) 44 0 [(2, 1), (0, i2), (0, a1)] [] m0 Q1
            refine zw_7 zr_44_0 rfl ?_
            refine zw_46r (s := 6) zr_44_1 rfl rfl rfl rfl ?_
            refine zw_3 zr_44_4 rfl ?_
            refine zw_48k (c := 6) (len := 60) zr_44_5 rfl rfl (by omega) (by omega) rfl ex10.symm ?_
            refine zw_3 zr_44_6 rfl ?_
            refine zw_41_1 zr_44_7 ?_ ?_
            · intro h14
              refine zw_push zr_44_20 ?_
              refine zw_42 zr_44_21 ?_
              refine zw_R zr_44_25 (by decide) zm_44 (v := (0, 1)) (zRetB (by omega)) ?_
              rw [← hQ1]
              show zW E (d) 56 31 [(2, 1), (0, a0), (0, a1), (0, i1), (0, i2)] [(0, 1)] m0 Q
              refine zw_40_1 zr_56_31 ?_ ?_
              · intro h15; omega
              · intro h16
                refine zw_15 (c := 1) (L' := [(2, 1), (0, a0), (0, a1), (0, (i1 + 1)), (0, i2)]) zr_56_34 rfl (by decide) (by omega) rfl ?_
                refine zw_15 (c := 1) (L' := [(2, 1), (0, a0), (0, a1), (0, (i1 + 1)), (0, (i2 + 1))]) zr_56_37 rfl (by decide) (by omega) rfl ?_
                refine zw_42 zr_56_40 ?_
                exact zw_less (L := [(2, 1), (0, a0), (0, a1), (0, (i1 + 1)), (0, (i2 + 1))]) ⟨Or.inr rfl, Or.inr rfl, Or.inr rfl, Or.inr rfl, Or.inr rfl, trivial⟩ (ihlp5_3 ((i1 + 1)) ((i2 + 1))  (by omega) (by omega) (by omega) (by omega) (by omega) (by omega) (by omega) (by omega))
            · intro h17
              refine zw_7 zr_44_10 rfl ?_
              refine zw_46r (s := 7) zr_44_11 rfl rfl rfl rfl ?_
              refine zw_3 zr_44_14 rfl ?_
              refine zw_48 (c := 7) (len := 60) zr_44_15 rfl rfl (by omega) (by omega) ?_
              intro x18 ex18
              have bx18 := ib_7 hI0 (k := (i2).toNat) (by omega)
              rw [← ex18] at bx18
              have qx18 : x18 = F7 (i2).toNat := by rw [← hG7]; exact ex18
              refine zw_3 zr_44_16 rfl ?_
              refine zw_41_4 zr_44_17 ?_ ?_
              · intro h19
                refine zw_push zr_44_24 ?_
                refine zw_R zr_44_25 (by decide) zm_44 (v := (0, 0)) (zRetB (by omega)) ?_
                rw [← hQ1]
                show zW E (d) 56 31 [(2, 1), (0, a0), (0, a1), (0, i1), (0, i2)] [(0, 0)] m0 Q
                refine zw_40_1 zr_56_31 ?_ ?_
                · intro h20
                  refine zw_15 (c := 1) (L' := [(2, 1), (0, a0), (0, a1), (0, i1), (0, (i2 + 1))]) zr_56_37 rfl (by decide) (by omega) rfl ?_
                  refine zw_42 zr_56_40 ?_
                  exact zw_less (L := [(2, 1), (0, a0), (0, a1), (0, i1), (0, (i2 + 1))]) ⟨Or.inr rfl, Or.inr rfl, Or.inr rfl, Or.inr rfl, Or.inr rfl, trivial⟩ (ihlp5_3 (i1) ((i2 + 1))  (by omega) (by omega) (by omega) (by omega) (by omega) (by omega) (by omega) (by omega))
                · intro h21; omega
              · intro h22
                refine zw_push zr_44_20 ?_
                refine zw_42 zr_44_21 ?_
                refine zw_R zr_44_25 (by decide) zm_44 (v := (0, 1)) (zRetB (by omega)) ?_
                rw [← hQ1]
                show zW E (d) 56 31 [(2, 1), (0, a0), (0, a1), (0, i1), (0, i2)] [(0, 1)] m0 Q
                refine zw_40_1 zr_56_31 ?_ ?_
                · intro h23; omega
                · intro h24
                  refine zw_15 (c := 1) (L' := [(2, 1), (0, a0), (0, a1), (0, (i1 + 1)), (0, i2)]) zr_56_34 rfl (by decide) (by omega) rfl ?_
                  refine zw_15 (c := 1) (L' := [(2, 1), (0, a0), (0, a1), (0, (i1 + 1)), (0, (i2 + 1))]) zr_56_37 rfl (by decide) (by omega) rfl ?_
                  refine zw_42 zr_56_40 ?_
                  exact zw_less (L := [(2, 1), (0, a0), (0, a1), (0, (i1 + 1)), (0, (i2 + 1))]) ⟨Or.inr rfl, Or.inr rfl, Or.inr rfl, Or.inr rfl, Or.inr rfl, trivial⟩ (ihlp5_3 ((i1 + 1)) ((i2 + 1))  (by omega) (by omega) (by omega) (by omega) (by omega) (by omega) (by omega) (by omega))
        · intro h25
          refine zw_7 zr_44_10 rfl ?_
          refine zw_46r (s := 7) zr_44_11 rfl rfl rfl rfl ?_
          refine zw_3 zr_44_14 rfl ?_
          refine zw_48 (c := 7) (len := 60) zr_44_15 rfl rfl (by omega) (by omega) ?_
          intro x26 ex26
          have bx26 := ib_7 hI0 (k := (i2).toNat) (by omega)
          rw [← ex26] at bx26
          have qx26 : x26 = F7 (i2).toNat := by rw [← hG7]; exact ex26
          refine zw_3 zr_44_16 rfl ?_
          refine zw_41_4 zr_44_17 ?_ ?_
          · intro h27
            refine zw_push zr_44_24 ?_
            refine zw_R zr_44_25 (by decide) zm_44 (v := (0, 0)) (zRetB (by omega)) ?_
            rw [← hQ1]
            show zW E (d) 56 21 [(2, 1), (0, a0), (0, a1), (0, i1), (0, i2)] [(0, 0)] m0 Q
            refine zw_40_1 zr_56_21 ?_ ?_
            · intro h28
              refine zw_15 (c := 1) (L' := [(2, 1), (0, a0), (0, a1), (0, i1), (0, (i2 + 1))]) zr_56_37 rfl (by decide) (by omega) rfl ?_
              refine zw_42 zr_56_40 ?_
              exact zw_less (L := [(2, 1), (0, a0), (0, a1), (0, i1), (0, (i2 + 1))]) ⟨Or.inr rfl, Or.inr rfl, Or.inr rfl, Or.inr rfl, Or.inr rfl, trivial⟩ (ihlp5_3 (i1) ((i2 + 1))  (by omega) (by omega) (by omega) (by omega) (by omega) (by omega) (by omega) (by omega))
            · intro h29; omega
          · intro h30
            refine zw_push zr_44_20 ?_
            refine zw_42 zr_44_21 ?_
            refine zw_R zr_44_25 (by decide) zm_44 (v := (0, 1)) (zRetB (by omega)) ?_
            rw [← hQ1]
            show zW E (d) 56 21 [(2, 1), (0, a0), (0, a1), (0, i1), (0, i2)] [(0, 1)] m0 Q
            refine zw_40_1 zr_56_21 ?_ ?_
            · intro h31; omega
            · intro h32
              refine zw_7 zr_56_24 rfl ?_
              refine zw_4 zr_56_25 rfl ?_
              refine zw_3 zr_56_27 rfl ?_
              refine zw_C zr_56_28 (Or.inl rfl) zm_44 rfl rfl ⟨Nat.le_of_ble_eq_true rfl, Nat.le_of_ble_eq_true rfl, Nat.le_of_ble_eq_true rfl, rfl, by decide⟩ (by omega) (P := (fun v m' => zW E (d) 56 31 [(2, 1), (0, a0), (0, a1), (0, i1), (0, i2)] (if v.1 = 9 then [] else v :: []) m' Q)) ?_ (fun _ _ h => h)
              generalize hQ1 : (fun v m' => zW E (d) 56 31 [(2, 1), (0, a0), (0, a1), (0, i1), (0, i2)] (if v.1 = 9 then [] else v :: []) m' Q) = Q1
              show zW E (d - 1) 44 0 [(2, 1), (0, i2), (0, a1)] [] m0 Q1
              refine zw_7 zr_44_0 rfl ?_
              refine zw_46r (s := 6) zr_44_1 rfl rfl rfl rfl ?_
              refine zw_3 zr_44_4 rfl ?_
              refine zw_48k (c := 6) (len := 60) zr_44_5 rfl rfl (by omega) (by omega) rfl ex10.symm ?_
              refine zw_3 zr_44_6 rfl ?_
              refine zw_41_1 zr_44_7 ?_ ?_
              · intro h33
                refine zw_push zr_44_20 ?_
                refine zw_42 zr_44_21 ?_
                refine zw_R zr_44_25 (by decide) zm_44 (v := (0, 1)) (zRetB (by omega)) ?_
                rw [← hQ1]
                show zW E (d) 56 31 [(2, 1), (0, a0), (0, a1), (0, i1), (0, i2)] [(0, 1)] m0 Q
                refine zw_40_1 zr_56_31 ?_ ?_
                · intro h34; omega
                · intro h35
                  refine zw_15 (c := 1) (L' := [(2, 1), (0, a0), (0, a1), (0, (i1 + 1)), (0, i2)]) zr_56_34 rfl (by decide) (by omega) rfl ?_
                  refine zw_15 (c := 1) (L' := [(2, 1), (0, a0), (0, a1), (0, (i1 + 1)), (0, (i2 + 1))]) zr_56_37 rfl (by decide) (by omega) rfl ?_
                  refine zw_42 zr_56_40 ?_
                  exact zw_less (L := [(2, 1), (0, a0), (0, a1), (0, (i1 + 1)), (0, (i2 + 1))]) ⟨Or.inr rfl, Or.inr rfl, Or.inr rfl, Or.inr rfl, Or.inr rfl, trivial⟩ (ihlp5_3 ((i1 + 1)) ((i2 + 1))  (by omega) (by omega) (by omega) (by omega) (by omega) (by omega) (by omega) (by omega))
              · intro h36
                refine zw_7 zr_44_10 rfl ?_
                refine zw_46r (s := 7) zr_44_11 rfl rfl rfl rfl ?_
                refine zw_3 zr_44_14 rfl ?_
                refine zw_48k (c := 7) (len := 60) zr_44_15 rfl rfl (by omega) (by omega) rfl ex26.symm ?_
                refine zw_3 zr_44_16 rfl ?_
                refine zw_41_4 zr_44_17 ?_ ?_
                · intro h37
                  refine zw_push zr_44_24 ?_
                  refine zw_R zr_44_25 (by decide) zm_44 (v := (0, 0)) (zRetB (by omega)) ?_
                  rw [← hQ1]
                  show zW E (d) 56 31 [(2, 1), (0, a0), (0, a1), (0, i1), (0, i2)] [(0, 0)] m0 Q
                  refine zw_40_1 zr_56_31 ?_ ?_
                  · intro h38
                    refine zw_15 (c := 1) (L' := [(2, 1), (0, a0), (0, a1), (0, i1), (0, (i2 + 1))]) zr_56_37 rfl (by decide) (by omega) rfl ?_
                    refine zw_42 zr_56_40 ?_
                    exact zw_less (L := [(2, 1), (0, a0), (0, a1), (0, i1), (0, (i2 + 1))]) ⟨Or.inr rfl, Or.inr rfl, Or.inr rfl, Or.inr rfl, Or.inr rfl, trivial⟩ (ihlp5_3 (i1) ((i2 + 1))  (by omega) (by omega) (by omega) (by omega) (by omega) (by omega) (by omega) (by omega))
                  · intro h39; omega
                · intro h40
                  refine zw_push zr_44_20 ?_
                  refine zw_42 zr_44_21 ?_
                  refine zw_R zr_44_25 (by decide) zm_44 (v := (0, 1)) (zRetB (by omega)) ?_
                  rw [← hQ1]
                  show zW E (d) 56 31 [(2, 1), (0, a0), (0, a1), (0, i1), (0, i2)] [(0, 1)] m0 Q
                  refine zw_40_1 zr_56_31 ?_ ?_
                  · intro h41; omega
                  · intro h42
                    refine zw_15 (c := 1) (L' := [(2, 1), (0, a0), (0, a1), (0, (i1 + 1)), (0, i2)]) zr_56_34 rfl (by decide) (by omega) rfl ?_
                    refine zw_15 (c := 1) (L' := [(2, 1), (0, a0), (0, a1), (0, (i1 + 1)), (0, (i2 + 1))]) zr_56_37 rfl (by decide) (by omega) rfl ?_
                    refine zw_42 zr_56_40 ?_
                    exact zw_less (L := [(2, 1), (0, a0), (0, a1), (0, (i1 + 1)), (0, (i2 + 1))]) ⟨Or.inr rfl, Or.inr rfl, Or.inr rfl, Or.inr rfl, Or.inr rfl, trivial⟩ (ihlp5_3 ((i1 + 1)) ((i2 + 1))  (by omega) (by omega) (by omega) (by omega) (by omega) (by omega) (by omega) (by omega))
  exact lp5_3 _ (0) (0)  (by omega) (by omega) (by omega) (by omega) (by omega) (by simp only [mtc, Int.toNat_zero]) (by have := ib_1_1 hI0; omega) (Nat.lt_succ_self _)

set_option maxHeartbeats 8000000 in
theorem th_57 {E : zE} {d : Nat} {m0 : zM} {a0 : Int} {a1 : Int} (hd : 2 ≤ d) (hI0 : zInv m0) (ha0 : 0 ≤ a0 ∧ a0 ≤ 9) (ha1 : 0 ≤ a1 ∧ a1 ≤ 9) : zC E d 57 [(2, 1), (0, a0), (0, a1)] m0 (fun v m' => ∃ r : Int, v = (0, r) ∧ (-2147483648) ≤ r ∧ r ≤ 2147483647 ∧ m0 = m') := by
  generalize hQ : (fun (v : zV) (m' : zM) => ∃ r : Int, v = (0, r) ∧ (-2147483648) ≤ r ∧ r ≤ 2147483647 ∧ m0 = m') = Q
  show zW E d 57 0 [(2, 1), (0, a0), (0, a1), (9, 0), (9, 0)] [] m0 Q
  refine zw_push zr_57_0 ?_
  refine zw_9 (L' := [(2, 1), (0, a0), (0, a1), (0, 0), (9, 0)]) zr_57_1 (Nat.le_of_ble_eq_true rfl) rfl ?_
  refine zw_push zr_57_2 ?_
  refine zw_10 (L' := [(2, 1), (0, a0), (0, a1), (0, 0), (0, 0)]) zr_57_3 (Nat.le_of_ble_eq_true rfl) rfl ?_
  have lp5_3 : ∀ (nlp5_3 : Nat) (i1 i2 : Int), (-2147483648) ≤ i1 → i1 ≤ 2147483647 → 0 ≤ i2 → i2 ≤ 60 → (60 - i2).toNat < nlp5_3 → zW E (d) 57 5 [(2, 1), (0, a0), (0, a1), (0, i1), (0, i2)] [] m0 Q := by
    intro nlp5_3
    induction nlp5_3 with
    | zero =>
      intros
      exact absurd (by assumption : _ < 0) (Nat.not_lt_zero _)
    | succ nlp5_3 ihlp5_3 =>
      intro i1 i2 li1 ui1 li2 ui2 hmlp5_3
      refine zw_4 zr_57_5 rfl ?_
      refine zw_7 zr_57_7 rfl ?_
      obtain ⟨f5, ef5⟩ : ∃ v, m0 1 1 = v := ⟨_, rfl⟩
      have bf5 := ib_1_1 hI0
      rw [ef5] at bf5
      refine zw_46i zr_57_8 ef5 rfl rfl rfl ?_
      refine zw_41_3 zr_57_11 ?_ ?_
      · intro h6
        refine zw_3 zr_57_54 rfl ?_
        refine zw_R zr_57_55 (by decide) zm_57 (v := (0, i1)) rfl ?_
        rw [← hQ]; exact ⟨_, rfl, by omega, by omega, rfl⟩
      · intro h7
        refine zw_7 zr_57_14 rfl ?_
        refine zw_4 zr_57_15 rfl ?_
        refine zw_3 zr_57_17 rfl ?_
        refine zw_C zr_57_18 (Or.inl rfl) zm_44 rfl rfl ⟨Nat.le_of_ble_eq_true rfl, Nat.le_of_ble_eq_true rfl, Nat.le_of_ble_eq_true rfl, rfl, by decide⟩ (by omega) (P := (fun v m' => zW E (d) 57 21 [(2, 1), (0, a0), (0, a1), (0, i1), (0, i2)] (if v.1 = 9 then [] else v :: []) m' Q)) ?_ (fun _ _ h => h)
        generalize hQ1 : (fun v m' => zW E (d) 57 21 [(2, 1), (0, a0), (0, a1), (0, i1), (0, i2)] (if v.1 = 9 then [] else v :: []) m' Q) = Q1
        show zW E (d - 1) 44 0 [(2, 1), (0, i2), (0, a0)] [] m0 Q1
        refine zw_7 zr_44_0 rfl ?_
        refine zw_46r (s := 6) zr_44_1 rfl rfl rfl rfl ?_
        refine zw_3 zr_44_4 rfl ?_
        refine zw_48 (c := 6) (len := 60) zr_44_5 rfl rfl (by omega) (by omega) ?_
        intro x8 ex8
        have bx8 := ib_6 hI0 (k := (i2).toNat) (by omega)
        rw [← ex8] at bx8
        refine zw_3 zr_44_6 rfl ?_
        refine zw_41_1 zr_44_7 ?_ ?_
        · intro h9
          refine zw_push zr_44_20 ?_
          refine zw_42 zr_44_21 ?_
          refine zw_R zr_44_25 (by decide) zm_44 (v := (0, 1)) (zRetB (by omega)) ?_
          rw [← hQ1]
          show zW E (d) 57 21 [(2, 1), (0, a0), (0, a1), (0, i1), (0, i2)] [(0, 1)] m0 Q
          refine zw_40_1 zr_57_21 ?_ ?_
          · intro h10; omega
          · intro h11
            refine zw_7 zr_57_24 rfl ?_
            refine zw_4 zr_57_25 rfl ?_
            refine zw_3 zr_57_27 rfl ?_
            refine zw_C zr_57_28 (Or.inl rfl) zm_44 rfl rfl ⟨Nat.le_of_ble_eq_true rfl, Nat.le_of_ble_eq_true rfl, Nat.le_of_ble_eq_true rfl, rfl, by decide⟩ (by omega) (P := (fun v m' => zW E (d) 57 31 [(2, 1), (0, a0), (0, a1), (0, i1), (0, i2)] (if v.1 = 9 then [] else v :: []) m' Q)) ?_ (fun _ _ h => h)
            generalize hQ1 : (fun v m' => zW E (d) 57 31 [(2, 1), (0, a0), (0, a1), (0, i1), (0, i2)] (if v.1 = 9 then [] else v :: []) m' Q) = Q1
            show zW E (d - 1) 44 0 [(2, 1), (0, i2), (0, a1)] [] m0 Q1
            refine zw_7 zr_44_0 rfl ?_
            refine zw_46r (s := 6) zr_44_1 rfl rfl rfl rfl ?_
            refine zw_3 zr_44_4 rfl ?_
            refine zw_48k (c := 6) (len := 60) zr_44_5 rfl rfl (by omega) (by omega) rfl ex8.symm ?_
            refine zw_3 zr_44_6 rfl ?_
            refine zw_41_1 zr_44_7 ?_ ?_
            · intro h12
              refine zw_push zr_44_20 ?_
              refine zw_42 zr_44_21 ?_
              refine zw_R zr_44_25 (by decide) zm_44 (v := (0, 1)) (zRetB (by omega)) ?_
              rw [← hQ1]
              show zW E (d) 57 31 [(2, 1), (0, a0), (0, a1), (0, i1), (0, i2)] [(0, 1)] m0 Q
              refine zw_40_1 zr_57_31 ?_ ?_
              · intro h13; omega
              · intro h14
                refine zw_7 zr_57_34 rfl ?_
                refine zw_46r (s := 8) zr_57_35 rfl rfl rfl rfl ?_
                refine zw_4 zr_57_38 rfl ?_
                refine zw_48 (c := 8) (len := 60) zr_57_40 rfl rfl (by omega) (by omega) ?_
                intro x15 ex15
                have bx15 := ib_8 hI0 (k := (i2).toNat) (by omega)
                rw [← ex15] at bx15
                clear ex15
                refine zw_push zr_57_41 ?_
                refine zw_41_4 zr_57_42 ?_ ?_
                · intro h16
                  refine zw_15 (c := 1) (L' := [(2, 1), (0, a0), (0, a1), (0, i1), (0, (i2 + 1))]) zr_57_48 rfl (by decide) (by omega) rfl ?_
                  refine zw_42 zr_57_51 ?_
                  exact zw_less (L := [(2, 1), (0, a0), (0, a1), (0, i1), (0, (i2 + 1))]) ⟨Or.inr rfl, Or.inr rfl, Or.inr rfl, Or.inr rfl, Or.inr rfl, trivial⟩ (ihlp5_3 (i1) ((i2 + 1))  (by omega) (by omega) (by omega) (by omega)  (by omega))
                · intro h17
                  refine zw_15h (L' := fun r => [(2, 1), (0, a0), (0, a1), (0, r), (0, i2)]) zr_57_45 rfl (fun _ => rfl) ?_
                  intro x18 hx18a hx18b
                  show zW E (d) 57 48 [(2, 1), (0, a0), (0, a1), (0, x18), (0, i2)] [] m0 Q
                  refine zw_15 (c := 1) (L' := [(2, 1), (0, a0), (0, a1), (0, x18), (0, (i2 + 1))]) zr_57_48 rfl (by decide) (by omega) rfl ?_
                  refine zw_42 zr_57_51 ?_
                  exact zw_less (L := [(2, 1), (0, a0), (0, a1), (0, x18), (0, (i2 + 1))]) ⟨Or.inr rfl, Or.inr rfl, Or.inr rfl, Or.inr rfl, Or.inr rfl, trivial⟩ (ihlp5_3 (x18) ((i2 + 1))  (by omega) (by omega) (by omega) (by omega)  (by omega))
            · intro h19
              refine zw_7 zr_44_10 rfl ?_
              refine zw_46r (s := 7) zr_44_11 rfl rfl rfl rfl ?_
              refine zw_3 zr_44_14 rfl ?_
              refine zw_48 (c := 7) (len := 60) zr_44_15 rfl rfl (by omega) (by omega) ?_
              intro x20 ex20
              have bx20 := ib_7 hI0 (k := (i2).toNat) (by omega)
              rw [← ex20] at bx20
              refine zw_3 zr_44_16 rfl ?_
              refine zw_41_4 zr_44_17 ?_ ?_
              · intro h21
                refine zw_push zr_44_24 ?_
                refine zw_R zr_44_25 (by decide) zm_44 (v := (0, 0)) (zRetB (by omega)) ?_
                rw [← hQ1]
                show zW E (d) 57 31 [(2, 1), (0, a0), (0, a1), (0, i1), (0, i2)] [(0, 0)] m0 Q
                refine zw_40_1 zr_57_31 ?_ ?_
                · intro h22
                  refine zw_15 (c := 1) (L' := [(2, 1), (0, a0), (0, a1), (0, i1), (0, (i2 + 1))]) zr_57_48 rfl (by decide) (by omega) rfl ?_
                  refine zw_42 zr_57_51 ?_
                  exact zw_less (L := [(2, 1), (0, a0), (0, a1), (0, i1), (0, (i2 + 1))]) ⟨Or.inr rfl, Or.inr rfl, Or.inr rfl, Or.inr rfl, Or.inr rfl, trivial⟩ (ihlp5_3 (i1) ((i2 + 1))  (by omega) (by omega) (by omega) (by omega)  (by omega))
                · intro h23; omega
              · intro h24
                refine zw_push zr_44_20 ?_
                refine zw_42 zr_44_21 ?_
                refine zw_R zr_44_25 (by decide) zm_44 (v := (0, 1)) (zRetB (by omega)) ?_
                rw [← hQ1]
                show zW E (d) 57 31 [(2, 1), (0, a0), (0, a1), (0, i1), (0, i2)] [(0, 1)] m0 Q
                refine zw_40_1 zr_57_31 ?_ ?_
                · intro h25; omega
                · intro h26
                  refine zw_7 zr_57_34 rfl ?_
                  refine zw_46r (s := 8) zr_57_35 rfl rfl rfl rfl ?_
                  refine zw_4 zr_57_38 rfl ?_
                  refine zw_48 (c := 8) (len := 60) zr_57_40 rfl rfl (by omega) (by omega) ?_
                  intro x27 ex27
                  have bx27 := ib_8 hI0 (k := (i2).toNat) (by omega)
                  rw [← ex27] at bx27
                  clear ex27
                  refine zw_push zr_57_41 ?_
                  refine zw_41_4 zr_57_42 ?_ ?_
                  · intro h28
                    refine zw_15 (c := 1) (L' := [(2, 1), (0, a0), (0, a1), (0, i1), (0, (i2 + 1))]) zr_57_48 rfl (by decide) (by omega) rfl ?_
                    refine zw_42 zr_57_51 ?_
                    exact zw_less (L := [(2, 1), (0, a0), (0, a1), (0, i1), (0, (i2 + 1))]) ⟨Or.inr rfl, Or.inr rfl, Or.inr rfl, Or.inr rfl, Or.inr rfl, trivial⟩ (ihlp5_3 (i1) ((i2 + 1))  (by omega) (by omega) (by omega) (by omega)  (by omega))
                  · intro h29
                    refine zw_15h (L' := fun r => [(2, 1), (0, a0), (0, a1), (0, r), (0, i2)]) zr_57_45 rfl (fun _ => rfl) ?_
                    intro x30 hx30a hx30b
                    show zW E (d) 57 48 [(2, 1), (0, a0), (0, a1), (0, x30), (0, i2)] [] m0 Q
                    refine zw_15 (c := 1) (L' := [(2, 1), (0, a0), (0, a1), (0, x30), (0, (i2 + 1))]) zr_57_48 rfl (by decide) (by omega) rfl ?_
                    refine zw_42 zr_57_51 ?_
                    exact zw_less (L := [(2, 1), (0, a0), (0, a1), (0, x30), (0, (i2 + 1))]) ⟨Or.inr rfl, Or.inr rfl, Or.inr rfl, Or.inr rfl, Or.inr rfl, trivial⟩ (ihlp5_3 (x30) ((i2 + 1))  (by omega) (by omega) (by omega) (by omega)  (by omega))
        · intro h31
          refine zw_7 zr_44_10 rfl ?_
          refine zw_46r (s := 7) zr_44_11 rfl rfl rfl rfl ?_
          refine zw_3 zr_44_14 rfl ?_
          refine zw_48 (c := 7) (len := 60) zr_44_15 rfl rfl (by omega) (by omega) ?_
          intro x32 ex32
          have bx32 := ib_7 hI0 (k := (i2).toNat) (by omega)
          rw [← ex32] at bx32
          refine zw_3 zr_44_16 rfl ?_
          refine zw_41_4 zr_44_17 ?_ ?_
          · intro h33
            refine zw_push zr_44_24 ?_
            refine zw_R zr_44_25 (by decide) zm_44 (v := (0, 0)) (zRetB (by omega)) ?_
            rw [← hQ1]
            show zW E (d) 57 21 [(2, 1), (0, a0), (0, a1), (0, i1), (0, i2)] [(0, 0)] m0 Q
            refine zw_40_1 zr_57_21 ?_ ?_
            · intro h34
              refine zw_15 (c := 1) (L' := [(2, 1), (0, a0), (0, a1), (0, i1), (0, (i2 + 1))]) zr_57_48 rfl (by decide) (by omega) rfl ?_
              refine zw_42 zr_57_51 ?_
              exact zw_less (L := [(2, 1), (0, a0), (0, a1), (0, i1), (0, (i2 + 1))]) ⟨Or.inr rfl, Or.inr rfl, Or.inr rfl, Or.inr rfl, Or.inr rfl, trivial⟩ (ihlp5_3 (i1) ((i2 + 1))  (by omega) (by omega) (by omega) (by omega)  (by omega))
            · intro h35; omega
          · intro h36
            refine zw_push zr_44_20 ?_
            refine zw_42 zr_44_21 ?_
            refine zw_R zr_44_25 (by decide) zm_44 (v := (0, 1)) (zRetB (by omega)) ?_
            rw [← hQ1]
            show zW E (d) 57 21 [(2, 1), (0, a0), (0, a1), (0, i1), (0, i2)] [(0, 1)] m0 Q
            refine zw_40_1 zr_57_21 ?_ ?_
            · intro h37; omega
            · intro h38
              refine zw_7 zr_57_24 rfl ?_
              refine zw_4 zr_57_25 rfl ?_
              refine zw_3 zr_57_27 rfl ?_
              refine zw_C zr_57_28 (Or.inl rfl) zm_44 rfl rfl ⟨Nat.le_of_ble_eq_true rfl, Nat.le_of_ble_eq_true rfl, Nat.le_of_ble_eq_true rfl, rfl, by decide⟩ (by omega) (P := (fun v m' => zW E (d) 57 31 [(2, 1), (0, a0), (0, a1), (0, i1), (0, i2)] (if v.1 = 9 then [] else v :: []) m' Q)) ?_ (fun _ _ h => h)
              generalize hQ1 : (fun v m' => zW E (d) 57 31 [(2, 1), (0, a0), (0, a1), (0, i1), (0, i2)] (if v.1 = 9 then [] else v :: []) m' Q) = Q1
              show zW E (d - 1) 44 0 [(2, 1), (0, i2), (0, a1)] [] m0 Q1
              refine zw_7 zr_44_0 rfl ?_
              refine zw_46r (s := 6) zr_44_1 rfl rfl rfl rfl ?_
              refine zw_3 zr_44_4 rfl ?_
              refine zw_48k (c := 6) (len := 60) zr_44_5 rfl rfl (by omega) (by omega) rfl ex8.symm ?_
              refine zw_3 zr_44_6 rfl ?_
              refine zw_41_1 zr_44_7 ?_ ?_
              · intro h39
                refine zw_push zr_44_20 ?_
                refine zw_42 zr_44_21 ?_
                refine zw_R zr_44_25 (by decide) zm_44 (v := (0, 1)) (zRetB (by omega)) ?_
                rw [← hQ1]
                show zW E (d) 57 31 [(2, 1), (0, a0), (0, a1), (0, i1), (0, i2)] [(0, 1)] m0 Q
                refine zw_40_1 zr_57_31 ?_ ?_
                · intro h40; omega
                · intro h41
                  refine zw_7 zr_57_34 rfl ?_
                  refine zw_46r (s := 8) zr_57_35 rfl rfl rfl rfl ?_
                  refine zw_4 zr_57_38 rfl ?_
                  refine zw_48 (c := 8) (len := 60) zr_57_40 rfl rfl (by omega) (by omega) ?_
                  intro x42 ex42
                  have bx42 := ib_8 hI0 (k := (i2).toNat) (by omega)
                  rw [← ex42] at bx42
                  clear ex42
                  refine zw_push zr_57_41 ?_
                  refine zw_41_4 zr_57_42 ?_ ?_
                  · intro h43
                    refine zw_15 (c := 1) (L' := [(2, 1), (0, a0), (0, a1), (0, i1), (0, (i2 + 1))]) zr_57_48 rfl (by decide) (by omega) rfl ?_
                    refine zw_42 zr_57_51 ?_
                    exact zw_less (L := [(2, 1), (0, a0), (0, a1), (0, i1), (0, (i2 + 1))]) ⟨Or.inr rfl, Or.inr rfl, Or.inr rfl, Or.inr rfl, Or.inr rfl, trivial⟩ (ihlp5_3 (i1) ((i2 + 1))  (by omega) (by omega) (by omega) (by omega)  (by omega))
                  · intro h44
                    refine zw_15h (L' := fun r => [(2, 1), (0, a0), (0, a1), (0, r), (0, i2)]) zr_57_45 rfl (fun _ => rfl) ?_
                    intro x45 hx45a hx45b
                    show zW E (d) 57 48 [(2, 1), (0, a0), (0, a1), (0, x45), (0, i2)] [] m0 Q
                    refine zw_15 (c := 1) (L' := [(2, 1), (0, a0), (0, a1), (0, x45), (0, (i2 + 1))]) zr_57_48 rfl (by decide) (by omega) rfl ?_
                    refine zw_42 zr_57_51 ?_
                    exact zw_less (L := [(2, 1), (0, a0), (0, a1), (0, x45), (0, (i2 + 1))]) ⟨Or.inr rfl, Or.inr rfl, Or.inr rfl, Or.inr rfl, Or.inr rfl, trivial⟩ (ihlp5_3 (x45) ((i2 + 1))  (by omega) (by omega) (by omega) (by omega)  (by omega))
              · intro h46
                refine zw_7 zr_44_10 rfl ?_
                refine zw_46r (s := 7) zr_44_11 rfl rfl rfl rfl ?_
                refine zw_3 zr_44_14 rfl ?_
                refine zw_48k (c := 7) (len := 60) zr_44_15 rfl rfl (by omega) (by omega) rfl ex32.symm ?_
                refine zw_3 zr_44_16 rfl ?_
                refine zw_41_4 zr_44_17 ?_ ?_
                · intro h47
                  refine zw_push zr_44_24 ?_
                  refine zw_R zr_44_25 (by decide) zm_44 (v := (0, 0)) (zRetB (by omega)) ?_
                  rw [← hQ1]
                  show zW E (d) 57 31 [(2, 1), (0, a0), (0, a1), (0, i1), (0, i2)] [(0, 0)] m0 Q
                  refine zw_40_1 zr_57_31 ?_ ?_
                  · intro h48
                    refine zw_15 (c := 1) (L' := [(2, 1), (0, a0), (0, a1), (0, i1), (0, (i2 + 1))]) zr_57_48 rfl (by decide) (by omega) rfl ?_
                    refine zw_42 zr_57_51 ?_
                    exact zw_less (L := [(2, 1), (0, a0), (0, a1), (0, i1), (0, (i2 + 1))]) ⟨Or.inr rfl, Or.inr rfl, Or.inr rfl, Or.inr rfl, Or.inr rfl, trivial⟩ (ihlp5_3 (i1) ((i2 + 1))  (by omega) (by omega) (by omega) (by omega)  (by omega))
                  · intro h49; omega
                · intro h50
                  refine zw_push zr_44_20 ?_
                  refine zw_42 zr_44_21 ?_
                  refine zw_R zr_44_25 (by decide) zm_44 (v := (0, 1)) (zRetB (by omega)) ?_
                  rw [← hQ1]
                  show zW E (d) 57 31 [(2, 1), (0, a0), (0, a1), (0, i1), (0, i2)] [(0, 1)] m0 Q
                  refine zw_40_1 zr_57_31 ?_ ?_
                  · intro h51; omega
                  · intro h52
                    refine zw_7 zr_57_34 rfl ?_
                    refine zw_46r (s := 8) zr_57_35 rfl rfl rfl rfl ?_
                    refine zw_4 zr_57_38 rfl ?_
                    refine zw_48 (c := 8) (len := 60) zr_57_40 rfl rfl (by omega) (by omega) ?_
                    intro x53 ex53
                    have bx53 := ib_8 hI0 (k := (i2).toNat) (by omega)
                    rw [← ex53] at bx53
                    clear ex53
                    refine zw_push zr_57_41 ?_
                    refine zw_41_4 zr_57_42 ?_ ?_
                    · intro h54
                      refine zw_15 (c := 1) (L' := [(2, 1), (0, a0), (0, a1), (0, i1), (0, (i2 + 1))]) zr_57_48 rfl (by decide) (by omega) rfl ?_
                      refine zw_42 zr_57_51 ?_
                      exact zw_less (L := [(2, 1), (0, a0), (0, a1), (0, i1), (0, (i2 + 1))]) ⟨Or.inr rfl, Or.inr rfl, Or.inr rfl, Or.inr rfl, Or.inr rfl, trivial⟩ (ihlp5_3 (i1) ((i2 + 1))  (by omega) (by omega) (by omega) (by omega)  (by omega))
                    · intro h55
                      refine zw_15h (L' := fun r => [(2, 1), (0, a0), (0, a1), (0, r), (0, i2)]) zr_57_45 rfl (fun _ => rfl) ?_
                      intro x56 hx56a hx56b
                      show zW E (d) 57 48 [(2, 1), (0, a0), (0, a1), (0, x56), (0, i2)] [] m0 Q
                      refine zw_15 (c := 1) (L' := [(2, 1), (0, a0), (0, a1), (0, x56), (0, (i2 + 1))]) zr_57_48 rfl (by decide) (by omega) rfl ?_
                      refine zw_42 zr_57_51 ?_
                      exact zw_less (L := [(2, 1), (0, a0), (0, a1), (0, x56), (0, (i2 + 1))]) ⟨Or.inr rfl, Or.inr rfl, Or.inr rfl, Or.inr rfl, Or.inr rfl, trivial⟩ (ihlp5_3 (x56) ((i2 + 1))  (by omega) (by omega) (by omega) (by omega)  (by omega))
  exact lp5_3 _ (0) (0)  (by omega) (by omega) (by omega) (by omega)  (Nat.lt_succ_self _)

set_option maxHeartbeats 8000000 in
theorem th_1 {E : zE} {d : Nat} {m0 : zM} {a0 : Int} {a1 : Int} (hd : 1 ≤ d) (hI0 : zInv m0) (ha0 : (-2147483648) ≤ a0 ∧ a0 ≤ 2147483646) (ha1 : (-50) ≤ a1 ∧ a1 ≤ 15) : zC E d 1 [(0, a0), (0, a1)] m0 (fun v m' => ∃ r : Int, v = (1, r) ∧ (-9223372036854775808) ≤ r ∧ r ≤ 9223372036854775807 ∧ m0 = m') := by
  generalize hQ : (fun (v : zV) (m' : zM) => ∃ r : Int, v = (1, r) ∧ (-9223372036854775808) ≤ r ∧ r ≤ 9223372036854775807 ∧ m0 = m') = Q
  show zW E d 1 0 [(0, a0), (0, a1), (9, 0), (9, 0), (9, 0)] [] m0 Q
  refine zw_push zr_1_0 ?_
  refine zw_13 (L' := [(0, a0), (0, a1), (1, 1), (9, 0), (9, 0)]) zr_1_1 (Nat.le_of_ble_eq_true rfl) rfl ?_
  refine zw_push zr_1_2 ?_
  refine zw_10 (L' := [(0, a0), (0, a1), (1, 1), (9, 0), (0, 0)]) zr_1_3 (Nat.le_of_ble_eq_true rfl) rfl ?_
  have lp5_3 : ∀ (nlp5_3 : Nat) (i1 i2 : Int), (-9223372036854775808) ≤ i1 → i1 ≤ 9223372036854775807 → 0 ≤ i2 → i2 ≤ 15 → (15 - i2).toNat < nlp5_3 → zW E (d) 1 5 [(0, a0), (0, a1), (1, i1), (9, 0), (0, i2)] [] m0 Q := by
    intro nlp5_3
    induction nlp5_3 with
    | zero =>
      intros
      exact absurd (by assumption : _ < 0) (Nat.not_lt_zero _)
    | succ nlp5_3 ihlp5_3 =>
      intro i1 i2 li1 ui1 li2 ui2 hmlp5_3
      refine zw_4 zr_1_5 rfl ?_
      refine zw_3 zr_1_7 rfl ?_
      refine zw_41_3 zr_1_8 ?_ ?_
      · intro h5
        refine zw_5 zr_1_22 rfl ?_
        refine zw_R zr_1_23 (by decide) zm_1 (v := (1, i1)) rfl ?_
        rw [← hQ]; exact ⟨_, rfl, by omega, by omega, rfl⟩
      · intro h6
        refine zw_5 zr_1_11 rfl ?_
        refine zw_3 zr_1_12 rfl ?_
        refine zw_36 zr_1_13 ?_
        refine zw_29h zr_1_14 ?_
        intro x7 hx7a hx7b
        refine zw_13 (L' := [(0, a0), (0, a1), (1, x7), (9, 0), (0, i2)]) zr_1_15 (Nat.le_of_ble_eq_true rfl) rfl ?_
        refine zw_15 (c := 1) (L' := [(0, a0), (0, a1), (1, x7), (9, 0), (0, (i2 + 1))]) zr_1_16 rfl (by decide) (by omega) rfl ?_
        refine zw_42 zr_1_19 ?_
        exact zw_less (L := [(0, a0), (0, a1), (1, x7), (9, 0), (0, (i2 + 1))]) ⟨Or.inr rfl, Or.inr rfl, Or.inr rfl, Or.inl rfl, Or.inr rfl, trivial⟩ (ihlp5_3 (x7) ((i2 + 1))  (by omega) (by omega) (by omega) (by omega)  (by omega))
  exact lp5_3 _ (1) (0)  (by omega) (by omega) (by omega) (by omega)  (Nat.lt_succ_self _)

set_option maxHeartbeats 8000000 in
theorem th_2 {E : zE} {d : Nat} {m0 : zM} {a0 : Int} {a1 : Int} {a2 : Int} {a3 : Int} (hd : 2 ≤ d) (hI0 : zInv m0) (ha0 : 1 ≤ a0 ∧ a0 ≤ 15) (ha1 : (-2147483648) ≤ a1 ∧ a1 ≤ 2147483647) (ha2 : 1 ≤ a2 ∧ a2 ≤ 2147483646) (ha3 : 2 ≤ a3 ∧ a3 ≤ 9) : zC E d 2 [(0, a0), (0, a1), (0, a2), (0, a3)] m0 (fun v m' => ∃ r : Int, v = (1, r) ∧ (-9223372036854775808) ≤ r ∧ r ≤ 9223372036854775807 ∧ m0 = m') := by
  generalize hQ : (fun (v : zV) (m' : zM) => ∃ r : Int, v = (1, r) ∧ (-9223372036854775808) ≤ r ∧ r ≤ 9223372036854775807 ∧ m0 = m') = Q
  show zW E d 2 0 [(0, a0), (0, a1), (0, a2), (0, a3), (9, 0), (9, 0), (9, 0), (9, 0), (9, 0)] [] m0 Q
  refine zw_push zr_2_0 ?_
  refine zw_14 (L' := [(0, a0), (0, a1), (0, a2), (0, a3), (1, 0), (9, 0), (9, 0), (9, 0), (9, 0)]) zr_2_1 (Nat.le_of_ble_eq_true rfl) rfl ?_
  refine zw_push zr_2_3 ?_
  refine zw_14 (L' := [(0, a0), (0, a1), (0, a2), (0, a3), (1, 0), (9, 0), (1, 1), (9, 0), (9, 0)]) zr_2_4 (Nat.le_of_ble_eq_true rfl) rfl ?_
  refine zw_push zr_2_6 ?_
  refine zw_10 (L' := [(0, a0), (0, a1), (0, a2), (0, a3), (1, 0), (9, 0), (1, 1), (9, 0), (0, 0)]) zr_2_7 (Nat.le_of_ble_eq_true rfl) rfl ?_
  have lp9_4 : ∀ (nlp9_4 : Nat) (i1 i2 i3 : Int), (-9223372036854775808) ≤ i1 → i1 ≤ 9223372036854775807 → (-9223372036854775808) ≤ i2 → i2 ≤ 9223372036854775807 → 0 ≤ i3 → i3 ≤ 16 → (16 - i3).toNat < nlp9_4 → zW E (d) 2 9 [(0, a0), (0, a1), (0, a2), (0, a3), (1, i1), (9, 0), (1, i2), (9, 0), (0, i3)] [] m0 Q := by
    intro nlp9_4
    induction nlp9_4 with
    | zero =>
      intros
      exact absurd (by assumption : _ < 0) (Nat.not_lt_zero _)
    | succ nlp9_4 ihlp9_4 =>
      intro i1 i2 i3 li1 ui1 li2 ui2 li3 ui3 hmlp9_4
      refine zw_4 zr_2_9 rfl ?_
      refine zw_3 zr_2_11 rfl ?_
      refine zw_41_2 zr_2_12 ?_ ?_
      · intro h6
        refine zw_6 zr_2_68 rfl ?_
        refine zw_R zr_2_70 (by decide) zm_2 (v := (1, i1)) rfl ?_
        rw [← hQ]; exact ⟨_, rfl, by omega, by omega, rfl⟩
      · intro h7
        refine zw_4 zr_2_15 rfl ?_
        refine zw_3 zr_2_17 rfl ?_
        refine zw_41_0 zr_2_18 ?_ ?_
        · intro h8
          refine zw_6 zr_2_46 rfl ?_
          refine zw_3 zr_2_48 rfl ?_
          refine zw_4 zr_2_49 rfl ?_
          refine zw_17 zr_2_51 (by omega) ?_
          refine zw_36 zr_2_52 ?_
          refine zw_29h zr_2_53 ?_
          intro x9 hx9a hx9b
          refine zw_4 zr_2_54 rfl ?_
          refine zw_push zr_2_56 ?_
          refine zw_16 zr_2_57 (by omega) ?_
          refine zw_36 zr_2_58 ?_
          refine zw_118h zr_2_59 (by omega) ?_
          intro x10 hx10a hx10b
          refine zw_14 (L' := [(0, a0), (0, a1), (0, a2), (0, a3), (1, i1), (9, 0), (1, x10), (9, 0), (0, i3)]) zr_2_60 (Nat.le_of_ble_eq_true rfl) rfl ?_
          refine zw_15 (c := 1) (L' := [(0, a0), (0, a1), (0, a2), (0, a3), (1, i1), (9, 0), (1, x10), (9, 0), (0, (i3 + 1))]) zr_2_62 rfl (by decide) (by omega) rfl ?_
          refine zw_42 zr_2_65 ?_
          exact zw_less (L := [(0, a0), (0, a1), (0, a2), (0, a3), (1, i1), (9, 0), (1, x10), (9, 0), (0, (i3 + 1))]) ⟨Or.inr rfl, Or.inr rfl, Or.inr rfl, Or.inr rfl, Or.inr rfl, Or.inl rfl, Or.inr rfl, Or.inl rfl, Or.inr rfl, trivial⟩ (ihlp9_4 (i1) (x10) ((i3 + 1))  (by omega) (by omega) (by omega) (by omega) (by omega) (by omega)  (by omega))
        · intro h11
          refine zw_6 zr_2_21 rfl ?_
          refine zw_6 zr_2_23 rfl ?_
          refine zw_3 zr_2_25 rfl ?_
          refine zw_4 zr_2_26 rfl ?_
          refine zw_C zr_2_28 (Or.inr rfl) zm_1 rfl rfl ⟨Nat.le_of_ble_eq_true rfl, Nat.le_of_ble_eq_true rfl, Nat.le_of_ble_eq_true rfl, rfl, by decide⟩ (by omega) (th_1 (d := d - 1) (by omega) hI0 (a0 := a2) (a1 := i3)      (by omega) (by omega) ) ?_
          rintro _ _ ⟨r12, rfl, hr12a, hr12b, rfl⟩
          show zW E (d) 2 31 [(0, a0), (0, a1), (0, a2), (0, a3), (1, i1), (9, 0), (1, i2), (9, 0), (0, i3)] [(1, r12), (1, i2), (1, i1)] m0 Q
          refine zw_29h zr_2_31 ?_
          intro x13 hx13a hx13b
          refine zw_3 zr_2_32 rfl ?_
          refine zw_3 zr_2_33 rfl ?_
          refine zw_17 zr_2_34 (by omega) ?_
          refine zw_3 zr_2_35 rfl ?_
          refine zw_4 zr_2_36 rfl ?_
          refine zw_17 zr_2_38 (by omega) ?_
          refine zw_C zr_2_39 (Or.inr rfl) zm_1 rfl rfl ⟨Nat.le_of_ble_eq_true rfl, Nat.le_of_ble_eq_true rfl, Nat.le_of_ble_eq_true rfl, rfl, by decide⟩ (by omega) (th_1 (d := d - 1) (by omega) hI0 (a0 := (a3 - a2)) (a1 := (a0 - i3))      (by omega) (by omega) ) ?_
          rintro _ _ ⟨r14, rfl, hr14a, hr14b, rfl⟩
          show zW E (d) 2 42 [(0, a0), (0, a1), (0, a2), (0, a3), (1, i1), (9, 0), (1, i2), (9, 0), (0, i3)] [(1, r14), (1, x13), (1, i1)] m0 Q
          refine zw_29h zr_2_42 ?_
          intro x15 hx15a hx15b
          refine zw_27h zr_2_43 ?_
          intro x16 hx16a hx16b
          refine zw_14 (L' := [(0, a0), (0, a1), (0, a2), (0, a3), (1, x16), (9, 0), (1, i2), (9, 0), (0, i3)]) zr_2_44 (Nat.le_of_ble_eq_true rfl) rfl ?_
          refine zw_6 zr_2_46 rfl ?_
          refine zw_3 zr_2_48 rfl ?_
          refine zw_4 zr_2_49 rfl ?_
          refine zw_17 zr_2_51 (by omega) ?_
          refine zw_36 zr_2_52 ?_
          refine zw_29h zr_2_53 ?_
          intro x17 hx17a hx17b
          refine zw_4 zr_2_54 rfl ?_
          refine zw_push zr_2_56 ?_
          refine zw_16 zr_2_57 (by omega) ?_
          refine zw_36 zr_2_58 ?_
          refine zw_118h zr_2_59 (by omega) ?_
          intro x18 hx18a hx18b
          refine zw_14 (L' := [(0, a0), (0, a1), (0, a2), (0, a3), (1, x16), (9, 0), (1, x18), (9, 0), (0, i3)]) zr_2_60 (Nat.le_of_ble_eq_true rfl) rfl ?_
          refine zw_15 (c := 1) (L' := [(0, a0), (0, a1), (0, a2), (0, a3), (1, x16), (9, 0), (1, x18), (9, 0), (0, (i3 + 1))]) zr_2_62 rfl (by decide) (by omega) rfl ?_
          refine zw_42 zr_2_65 ?_
          exact zw_less (L := [(0, a0), (0, a1), (0, a2), (0, a3), (1, x16), (9, 0), (1, x18), (9, 0), (0, (i3 + 1))]) ⟨Or.inr rfl, Or.inr rfl, Or.inr rfl, Or.inr rfl, Or.inr rfl, Or.inl rfl, Or.inr rfl, Or.inl rfl, Or.inr rfl, trivial⟩ (ihlp9_4 (x16) (x18) ((i3 + 1))  (by omega) (by omega) (by omega) (by omega) (by omega) (by omega)  (by omega))
  exact lp9_4 _ (0) (1) (0)  (by omega) (by omega) (by omega) (by omega) (by omega) (by omega)  (Nat.lt_succ_self _)

abbrev W_126 : List (Nat × Nat) := [(42, 0), (42, 1)]
set_option maxHeartbeats 8000000 in
theorem th_126 {E : zE} {d : Nat} {m0 : zM} {a0 : Int} {a1 : Int} {a2 : Int} {a3 : Int} {g0 : Int} {F6 : Nat → Int} {F7 : Nat → Int} (hd : 3 ≤ d) (hI0 : zInv m0) (hg0 : m0 1 0 = g0) (hG6 : m0 6 = F6) (hG7 : m0 7 = F7) (ha0 : (-2147483648) ≤ a0 ∧ a0 ≤ 2147483647) (ha1 : (-2147483648) ≤ a1 ∧ a1 ≤ 2147483647) (ha2 : (-2147483648) ≤ a2 ∧ a2 ≤ 2147483647) (ha3 : (-2147483648) ≤ a3 ∧ a3 ≤ 2147483647) : zC E d 126 [(2, 0), (0, a0), (0, a1), (0, a2), (0, a3)] m0 (fun v m' => ∃ r : Int, v = (0, r) ∧ (-3) ≤ r ∧ r ≤ 1 ∧ zInv m' ∧ zFr W_126 m0 m' ∧ ((r = -2 ∧ (a0 < 0 ∨ g0 ≤ a0 ∨ a1 < 0 ∨ g0 ≤ a1 ∨ a0 = a1 ∨ a2 < 1 ∨ a3 ≤ a2 ∨ 9 < a3)) ∨ (0 ≤ a0 ∧ a0 < g0 ∧ 0 ≤ a1 ∧ a1 < g0 ∧ a0 ≠ a1 ∧ 1 ≤ a2 ∧ a2 < a3 ∧ a3 ≤ 9 ∧ ((r = 1 ∧ 1 ≤ mtc F6 F7 a0 a1 (m0 1 1).toNat ∧ mtc F6 F7 a0 a1 (m0 1 1).toNat ≤ 15) ∨ (r = -3 ∧ (mtc F6 F7 a0 a1 (m0 1 1).toNat < 1 ∨ 15 < mtc F6 F7 a0 a1 (m0 1 1).toNat)))))) := by
  have hF0 : zFr W_126 m0 m0 := zFr.rfl
  have bg0 := ib_1_0 hI0
  rw [hg0] at bg0
  generalize hQ : (fun (v : zV) (m' : zM) => ∃ r : Int, v = (0, r) ∧ (-3) ≤ r ∧ r ≤ 1 ∧ zInv m' ∧ zFr W_126 m0 m' ∧ ((r = -2 ∧ (a0 < 0 ∨ g0 ≤ a0 ∨ a1 < 0 ∨ g0 ≤ a1 ∨ a0 = a1 ∨ a2 < 1 ∨ a3 ≤ a2 ∨ 9 < a3)) ∨ (0 ≤ a0 ∧ a0 < g0 ∧ 0 ≤ a1 ∧ a1 < g0 ∧ a0 ≠ a1 ∧ 1 ≤ a2 ∧ a2 < a3 ∧ a3 ≤ 9 ∧ ((r = 1 ∧ 1 ≤ mtc F6 F7 a0 a1 (m0 1 1).toNat ∧ mtc F6 F7 a0 a1 (m0 1 1).toNat ≤ 15) ∨ (r = -3 ∧ (mtc F6 F7 a0 a1 (m0 1 1).toNat < 1 ∨ 15 < mtc F6 F7 a0 a1 (m0 1 1).toNat)))))) = Q
  show zW E d 126 0 [(2, 0), (0, a0), (0, a1), (0, a2), (0, a3), (9, 0)] [] m0 Q
  refine zw_7 zr_126_0 rfl ?_
  refine zw_46r (s := 1) zr_126_1 rfl rfl rfl rfl ?_
  refine zw_3 zr_126_4 rfl ?_
  refine zw_3 zr_126_5 rfl ?_
  refine zw_C zr_126_6 (Or.inl rfl) zm_50 rfl rfl ⟨Nat.le_of_ble_eq_true rfl, Nat.le_of_ble_eq_true rfl, Nat.le_of_ble_eq_true rfl, rfl, by decide⟩ (by omega) (P := (fun v m' => zW E (d) 126 9 [(2, 0), (0, a0), (0, a1), (0, a2), (0, a3), (9, 0)] (if v.1 = 9 then [] else v :: []) m' Q)) ?_ (fun _ _ h => h)
  generalize hQ1 : (fun v m' => zW E (d) 126 9 [(2, 0), (0, a0), (0, a1), (0, a2), (0, a3), (9, 0)] (if v.1 = 9 then [] else v :: []) m' Q) = Q1
  show zW E (d - 1) 50 0 [(2, 1), (0, a0), (0, a1)] [] m0 Q1
  refine zw_7 zr_50_0 rfl ?_
  refine zw_3 zr_50_1 rfl ?_
  refine zw_C zr_50_2 (Or.inl rfl) zm_49 rfl rfl ⟨Nat.le_of_ble_eq_true rfl, Nat.le_of_ble_eq_true rfl, Nat.le_of_ble_eq_true rfl, rfl, by decide⟩ (by omega) (P := (fun v m' => zW E (d - 1) 50 5 [(2, 1), (0, a0), (0, a1)] (if v.1 = 9 then [] else v :: []) m' Q1)) ?_ (fun _ _ h => h)
  generalize hQ2 : (fun v m' => zW E (d - 1) 50 5 [(2, 1), (0, a0), (0, a1)] (if v.1 = 9 then [] else v :: []) m' Q1) = Q2
  show zW E (d - 1 - 1) 49 0 [(2, 1), (0, a0)] [] m0 Q2
  refine zw_3 zr_49_0 rfl ?_
  refine zw_40_0 zr_49_1 ?_ ?_
  · intro h1
    refine zw_push zr_49_16 ?_
    refine zw_R zr_49_17 (by decide) zm_49 (v := (0, 0)) (zRetB (by omega)) ?_
    rw [← hQ2]
    show zW E (d - 1) 50 5 [(2, 1), (0, a0), (0, a1)] [(0, 0)] m0 Q1
    refine zw_40_1 zr_50_5 ?_ ?_
    · intro h2
      refine zw_push zr_50_25 ?_
      refine zw_R zr_50_26 (by decide) zm_50 (v := (0, 0)) (zRetB (by omega)) ?_
      rw [← hQ1]
      show zW E (d) 126 9 [(2, 0), (0, a0), (0, a1), (0, a2), (0, a3), (9, 0)] [(0, 0)] m0 Q
      refine zw_40_1 zr_126_9 ?_ ?_
      · intro h3
        refine zw_push zr_126_30 ?_
        refine zw_R zr_126_32 (by decide) zm_126 (v := (0, (-2))) rfl ?_
        rw [← hQ]; exact ⟨_, rfl, by omega, by omega, hI0, hF0, by omega⟩
      · intro h5; omega
    · intro h6; omega
  · intro h7
    refine zw_3 zr_49_4 rfl ?_
    refine zw_7 zr_49_5 rfl ?_
    refine zw_46i zr_49_6 hg0 rfl rfl rfl ?_
    refine zw_41_3 zr_49_9 ?_ ?_
    · intro h8
      refine zw_push zr_49_16 ?_
      refine zw_R zr_49_17 (by decide) zm_49 (v := (0, 0)) (zRetB (by omega)) ?_
      rw [← hQ2]
      show zW E (d - 1) 50 5 [(2, 1), (0, a0), (0, a1)] [(0, 0)] m0 Q1
      refine zw_40_1 zr_50_5 ?_ ?_
      · intro h9
        refine zw_push zr_50_25 ?_
        refine zw_R zr_50_26 (by decide) zm_50 (v := (0, 0)) (zRetB (by omega)) ?_
        rw [← hQ1]
        show zW E (d) 126 9 [(2, 0), (0, a0), (0, a1), (0, a2), (0, a3), (9, 0)] [(0, 0)] m0 Q
        refine zw_40_1 zr_126_9 ?_ ?_
        · intro h10
          refine zw_push zr_126_30 ?_
          refine zw_R zr_126_32 (by decide) zm_126 (v := (0, (-2))) rfl ?_
          rw [← hQ]; exact ⟨_, rfl, by omega, by omega, hI0, hF0, by omega⟩
        · intro h12; omega
      · intro h13; omega
    · intro h14
      refine zw_push zr_49_12 ?_
      refine zw_42 zr_49_13 ?_
      refine zw_R zr_49_17 (by decide) zm_49 (v := (0, 1)) (zRetB (by omega)) ?_
      rw [← hQ2]
      show zW E (d - 1) 50 5 [(2, 1), (0, a0), (0, a1)] [(0, 1)] m0 Q1
      refine zw_40_1 zr_50_5 ?_ ?_
      · intro h15; omega
      · intro h16
        refine zw_7 zr_50_8 rfl ?_
        refine zw_3 zr_50_9 rfl ?_
        refine zw_C zr_50_10 (Or.inl rfl) zm_49 rfl rfl ⟨Nat.le_of_ble_eq_true rfl, Nat.le_of_ble_eq_true rfl, Nat.le_of_ble_eq_true rfl, rfl, by decide⟩ (by omega) (P := (fun v m' => zW E (d - 1) 50 13 [(2, 1), (0, a0), (0, a1)] (if v.1 = 9 then [] else v :: []) m' Q1)) ?_ (fun _ _ h => h)
        generalize hQ2 : (fun v m' => zW E (d - 1) 50 13 [(2, 1), (0, a0), (0, a1)] (if v.1 = 9 then [] else v :: []) m' Q1) = Q2
        show zW E (d - 1 - 1) 49 0 [(2, 1), (0, a1)] [] m0 Q2
        refine zw_3 zr_49_0 rfl ?_
        refine zw_40_0 zr_49_1 ?_ ?_
        · intro h17
          refine zw_push zr_49_16 ?_
          refine zw_R zr_49_17 (by decide) zm_49 (v := (0, 0)) (zRetB (by omega)) ?_
          rw [← hQ2]
          show zW E (d - 1) 50 13 [(2, 1), (0, a0), (0, a1)] [(0, 0)] m0 Q1
          refine zw_40_1 zr_50_13 ?_ ?_
          · intro h18
            refine zw_push zr_50_25 ?_
            refine zw_R zr_50_26 (by decide) zm_50 (v := (0, 0)) (zRetB (by omega)) ?_
            rw [← hQ1]
            show zW E (d) 126 9 [(2, 0), (0, a0), (0, a1), (0, a2), (0, a3), (9, 0)] [(0, 0)] m0 Q
            refine zw_40_1 zr_126_9 ?_ ?_
            · intro h19
              refine zw_push zr_126_30 ?_
              refine zw_R zr_126_32 (by decide) zm_126 (v := (0, (-2))) rfl ?_
              rw [← hQ]; exact ⟨_, rfl, by omega, by omega, hI0, hF0, by omega⟩
            · intro h21; omega
          · intro h22; omega
        · intro h23
          refine zw_3 zr_49_4 rfl ?_
          refine zw_7 zr_49_5 rfl ?_
          refine zw_46i zr_49_6 hg0 rfl rfl rfl ?_
          refine zw_41_3 zr_49_9 ?_ ?_
          · intro h24
            refine zw_push zr_49_16 ?_
            refine zw_R zr_49_17 (by decide) zm_49 (v := (0, 0)) (zRetB (by omega)) ?_
            rw [← hQ2]
            show zW E (d - 1) 50 13 [(2, 1), (0, a0), (0, a1)] [(0, 0)] m0 Q1
            refine zw_40_1 zr_50_13 ?_ ?_
            · intro h25
              refine zw_push zr_50_25 ?_
              refine zw_R zr_50_26 (by decide) zm_50 (v := (0, 0)) (zRetB (by omega)) ?_
              rw [← hQ1]
              show zW E (d) 126 9 [(2, 0), (0, a0), (0, a1), (0, a2), (0, a3), (9, 0)] [(0, 0)] m0 Q
              refine zw_40_1 zr_126_9 ?_ ?_
              · intro h26
                refine zw_push zr_126_30 ?_
                refine zw_R zr_126_32 (by decide) zm_126 (v := (0, (-2))) rfl ?_
                rw [← hQ]; exact ⟨_, rfl, by omega, by omega, hI0, hF0, by omega⟩
              · intro h28; omega
            · intro h29; omega
          · intro h30
            refine zw_push zr_49_12 ?_
            refine zw_42 zr_49_13 ?_
            refine zw_R zr_49_17 (by decide) zm_49 (v := (0, 1)) (zRetB (by omega)) ?_
            rw [← hQ2]
            show zW E (d - 1) 50 13 [(2, 1), (0, a0), (0, a1)] [(0, 1)] m0 Q1
            refine zw_40_1 zr_50_13 ?_ ?_
            · intro h31; omega
            · intro h32
              refine zw_3 zr_50_16 rfl ?_
              refine zw_3 zr_50_17 rfl ?_
              refine zw_41_1 zr_50_18 ?_ ?_
              · intro h33
                refine zw_push zr_50_25 ?_
                refine zw_R zr_50_26 (by decide) zm_50 (v := (0, 0)) (zRetB (by omega)) ?_
                rw [← hQ1]
                show zW E (d) 126 9 [(2, 0), (0, a0), (0, a1), (0, a2), (0, a3), (9, 0)] [(0, 0)] m0 Q
                refine zw_40_1 zr_126_9 ?_ ?_
                · intro h34
                  refine zw_push zr_126_30 ?_
                  refine zw_R zr_126_32 (by decide) zm_126 (v := (0, (-2))) rfl ?_
                  rw [← hQ]; exact ⟨_, rfl, by omega, by omega, hI0, hF0, by omega⟩
                · intro h36; omega
              · intro h37
                refine zw_push zr_50_21 ?_
                refine zw_42 zr_50_22 ?_
                refine zw_R zr_50_26 (by decide) zm_50 (v := (0, 1)) (zRetB (by omega)) ?_
                rw [← hQ1]
                show zW E (d) 126 9 [(2, 0), (0, a0), (0, a1), (0, a2), (0, a3), (9, 0)] [(0, 1)] m0 Q
                refine zw_40_1 zr_126_9 ?_ ?_
                · intro h38; omega
                · intro h39
                  refine zw_3 zr_126_12 rfl ?_
                  refine zw_push zr_126_13 ?_
                  refine zw_41_0 zr_126_14 ?_ ?_
                  · intro h40
                    refine zw_push zr_126_30 ?_
                    refine zw_R zr_126_32 (by decide) zm_126 (v := (0, (-2))) rfl ?_
                    rw [← hQ]; exact ⟨_, rfl, by omega, by omega, hI0, hF0, by omega⟩
                  · intro h42
                    refine zw_4 zr_126_17 rfl ?_
                    refine zw_3 zr_126_19 rfl ?_
                    refine zw_41_5 zr_126_20 ?_ ?_
                    · intro h43
                      refine zw_push zr_126_30 ?_
                      refine zw_R zr_126_32 (by decide) zm_126 (v := (0, (-2))) rfl ?_
                      rw [← hQ]; exact ⟨_, rfl, by omega, by omega, hI0, hF0, by omega⟩
                    · intro h45
                      refine zw_4 zr_126_23 rfl ?_
                      refine zw_push zr_126_25 ?_
                      refine zw_41_5 zr_126_27 ?_ ?_
                      · intro h46
                        refine zw_7 zr_126_33 rfl ?_
                        refine zw_46r (s := 1) zr_126_34 rfl rfl rfl rfl ?_
                        refine zw_3 zr_126_37 rfl ?_
                        refine zw_3 zr_126_38 rfl ?_
                        refine zw_C zr_126_39 (Or.inl rfl) zm_56 rfl rfl ⟨Nat.le_of_ble_eq_true rfl, Nat.le_of_ble_eq_true rfl, Nat.le_of_ble_eq_true rfl, rfl, by decide⟩ (by omega) (th_56 (d := d - 1) (by omega) hI0 (a0 := a0) (a1 := a1)   (F6 := F6) (F7 := F7)  hG6 hG7 (by omega) (by omega) ) ?_
                        rintro _ _ ⟨r47, rfl, hr47a, hr47b, rfl, po0_r47⟩
                        show zW E (d) 126 42 [(2, 0), (0, a0), (0, a1), (0, a2), (0, a3), (9, 0)] [(0, r47)] m0 Q
                        refine zw_10 (L' := [(2, 0), (0, a0), (0, a1), (0, a2), (0, a3), (0, r47)]) zr_126_42 (Nat.le_of_ble_eq_true rfl) rfl ?_
                        refine zw_4 zr_126_44 rfl ?_
                        refine zw_push zr_126_46 ?_
                        refine zw_push zr_126_47 ?_
                        refine zw_C zr_126_49 (Or.inr rfl) zm_100 rfl rfl ⟨Nat.le_of_ble_eq_true rfl, Nat.le_of_ble_eq_true rfl, Nat.le_of_ble_eq_true rfl, rfl, by decide⟩ (by omega) (P := (fun v m' => zW E (d) 126 52 [(2, 0), (0, a0), (0, a1), (0, a2), (0, a3), (0, r47)] (if v.1 = 9 then [] else v :: []) m' Q)) ?_ (fun _ _ h => h)
                        generalize hQ1 : (fun v m' => zW E (d) 126 52 [(2, 0), (0, a0), (0, a1), (0, a2), (0, a3), (0, r47)] (if v.1 = 9 then [] else v :: []) m' Q) = Q1
                        show zW E (d - 1) 100 0 [(0, r47), (0, 1), (0, 15)] [] m0 Q1
                        refine zw_3 zr_100_0 rfl ?_
                        refine zw_3 zr_100_1 rfl ?_
                        refine zw_41_0 zr_100_2 ?_ ?_
                        · intro h48
                          refine zw_push zr_100_14 ?_
                          refine zw_R zr_100_15 (by decide) zm_100 (v := (0, 0)) (zRetB (by omega)) ?_
                          rw [← hQ1]
                          show zW E (d) 126 52 [(2, 0), (0, a0), (0, a1), (0, a2), (0, a3), (0, r47)] [(0, 0)] m0 Q
                          refine zw_40_4 zr_126_52 ?_ ?_
                          · intro h49; omega
                          · intro h50
                            refine zw_push zr_126_55 ?_
                            refine zw_R zr_126_57 (by decide) zm_126 (v := (0, (-3))) rfl ?_
                            rw [← hQ]; exact ⟨_, rfl, by omega, by omega, hI0, hF0, by omega⟩
                        · intro h52
                          refine zw_3 zr_100_5 rfl ?_
                          refine zw_3 zr_100_6 rfl ?_
                          refine zw_41_2 zr_100_7 ?_ ?_
                          · intro h53
                            refine zw_push zr_100_14 ?_
                            refine zw_R zr_100_15 (by decide) zm_100 (v := (0, 0)) (zRetB (by omega)) ?_
                            rw [← hQ1]
                            show zW E (d) 126 52 [(2, 0), (0, a0), (0, a1), (0, a2), (0, a3), (0, r47)] [(0, 0)] m0 Q
                            refine zw_40_4 zr_126_52 ?_ ?_
                            · intro h54; omega
                            · intro h55
                              refine zw_push zr_126_55 ?_
                              refine zw_R zr_126_57 (by decide) zm_126 (v := (0, (-3))) rfl ?_
                              rw [← hQ]; exact ⟨_, rfl, by omega, by omega, hI0, hF0, by omega⟩
                          · intro h57
                            refine zw_push zr_100_10 ?_
                            refine zw_42 zr_100_11 ?_
                            refine zw_R zr_100_15 (by decide) zm_100 (v := (0, 1)) (zRetB (by omega)) ?_
                            rw [← hQ1]
                            show zW E (d) 126 52 [(2, 0), (0, a0), (0, a1), (0, a2), (0, a3), (0, r47)] [(0, 1)] m0 Q
                            refine zw_40_4 zr_126_52 ?_ ?_
                            · intro h58
                              refine zw_7 zr_126_58 rfl ?_
                              refine zw_46r (s := 42) zr_126_59 rfl rfl rfl rfl ?_
                              refine zw_4 zr_126_62 rfl ?_
                              refine zw_7 zr_126_64 rfl ?_
                              refine zw_46r (s := 1) zr_126_65 rfl rfl rfl rfl ?_
                              refine zw_3 zr_126_68 rfl ?_
                              refine zw_3 zr_126_69 rfl ?_
                              refine zw_C zr_126_70 (Or.inl rfl) zm_57 rfl rfl ⟨Nat.le_of_ble_eq_true rfl, Nat.le_of_ble_eq_true rfl, Nat.le_of_ble_eq_true rfl, rfl, by decide⟩ (by omega) (th_57 (d := d - 1) (by omega) hI0 (a0 := a0) (a1 := a1)      (by omega) (by omega) ) ?_
                              rintro _ _ ⟨r59, rfl, hr59a, hr59b, rfl⟩
                              show zW E (d) 126 73 [(2, 0), (0, a0), (0, a1), (0, a2), (0, a3), (0, r47)] [(0, r59), (0, r47), (2, 42)] m0 Q
                              refine zw_3 zr_126_73 rfl ?_
                              refine zw_4 zr_126_74 rfl ?_
                              refine zw_C zr_126_76 (Or.inr rfl) zm_2 rfl rfl ⟨Nat.le_of_ble_eq_true rfl, Nat.le_of_ble_eq_true rfl, Nat.le_of_ble_eq_true rfl, rfl, by decide⟩ (by omega) (th_2 (d := d - 1) (by omega) hI0 (a0 := r47) (a1 := r59) (a2 := a2) (a3 := a3)      (by omega) (by omega) (by omega) (by omega) ) ?_
                              rintro _ _ ⟨r60, rfl, hr60a, hr60b, rfl⟩
                              show zW E (d) 126 79 [(2, 0), (0, a0), (0, a1), (0, a2), (0, a3), (0, r47)] [(1, r60), (2, 42)] m0 Q
                              refine zw_4 zr_126_79 rfl ?_
                              refine zw_4 zr_126_81 rfl ?_
                              refine zw_C zr_126_83 (Or.inr rfl) zm_1 rfl rfl ⟨Nat.le_of_ble_eq_true rfl, Nat.le_of_ble_eq_true rfl, Nat.le_of_ble_eq_true rfl, rfl, by decide⟩ (by omega) (th_1 (d := d - 1) (by omega) hI0 (a0 := a3) (a1 := r47)      (by omega) (by omega) ) ?_
                              rintro _ _ ⟨r61, rfl, hr61a, hr61b, rfl⟩
                              show zW E (d) 126 86 [(2, 0), (0, a0), (0, a1), (0, a2), (0, a3), (0, r47)] [(1, r61), (1, r60), (2, 42)] m0 Q
                              refine zw_C zr_126_86 (Or.inl rfl) zm_38 rfl rfl ⟨Nat.le_of_ble_eq_true rfl, Nat.le_of_ble_eq_true rfl, Nat.le_of_ble_eq_true rfl, rfl, by decide⟩ (by omega) (th_38 (d := d - 1) (by omega) hI0 (a0 := r60) (a1 := r61)      (by omega) (by omega) ) ?_
                              rintro _ m62 ⟨rfl, hIm62, gm62⟩
                              have hFm62 : zFr W_126 m0 m62 := hF0.trans gm62 rfl
                              have km62_1_0 : m62 1 0 = g0 := (gm62 1 0 rfl).trans hg0
                              have fm62_6 : m62 6 = F6 := (funext fun k => gm62 6 k rfl).trans hG6
                              have fm62_7 : m62 7 = F7 := (funext fun k => gm62 7 k rfl).trans hG7
                              show zW E (d) 126 89 [(2, 0), (0, a0), (0, a1), (0, a2), (0, a3), (0, r47)] [] m62 Q
                              refine zw_push zr_126_89 ?_
                              refine zw_R zr_126_90 (by decide) zm_126 (v := (0, 1)) rfl ?_
                              rw [← hQ]; exact ⟨_, rfl, by omega, by omega, hIm62, hFm62, by omega⟩
                            · intro h64; omega
                      · intro h65
                        refine zw_push zr_126_30 ?_
                        refine zw_R zr_126_32 (by decide) zm_126 (v := (0, (-2))) rfl ?_
                        rw [← hQ]; exact ⟨_, rfl, by omega, by omega, hI0, hF0, by omega⟩

set_option maxHeartbeats 8000000 in
theorem th_200 {E : zE} {d : Nat} {m0 : zM} {a0 : Int} {a1 : Int} {a2 : Int} {F70 : Nat → Int} (hd : 3 ≤ d) (hI0 : zInv m0) (hG70 : m0 70 = F70) (ha0 : 0 ≤ a0 ∧ a0 ≤ 9) (ha1 : 0 ≤ a1 ∧ a1 ≤ 9) (ha2 : 0 ≤ a2 ∧ a2 ≤ 1) : zC E d 200 [(2, 69), (0, a0), (0, a1), (0, a2)] m0 (fun v m' => ∃ r : Int, v = (0, r) ∧ 0 ≤ r ∧ r ≤ 60 ∧ m0 = m' ∧ (a2 ≠ 0 ∨ r = mtr F70 a0 a1 (F70 823).toNat)) := by
  generalize hQ : (fun (v : zV) (m' : zM) => ∃ r : Int, v = (0, r) ∧ 0 ≤ r ∧ r ≤ 60 ∧ m0 = m' ∧ (a2 ≠ 0 ∨ r = mtr F70 a0 a1 (F70 823).toNat)) = Q
  show zW E d 200 0 [(2, 69), (0, a0), (0, a1), (0, a2), (9, 0), (9, 0)] [] m0 Q
  refine zw_push zr_200_0 ?_
  refine zw_10 (L' := [(2, 69), (0, a0), (0, a1), (0, a2), (0, 0), (9, 0)]) zr_200_1 (Nat.le_of_ble_eq_true rfl) rfl ?_
  refine zw_push zr_200_3 ?_
  refine zw_10 (L' := [(2, 69), (0, a0), (0, a1), (0, a2), (0, 0), (0, 0)]) zr_200_4 (Nat.le_of_ble_eq_true rfl) rfl ?_
  have lp6_3 : ∀ (nlp6_3 : Nat) (i1 i2 : Int), 0 ≤ i1 → i1 ≤ 60 → 0 ≤ i2 → i2 ≤ 60 → (i1 ≤ i2) → (a2 ≠ 0 ∨ i1 = mtr F70 a0 a1 (i2).toNat) → (i2 ≤ m0 70 823) → (60 - i2).toNat < nlp6_3 → zW E (d) 200 6 [(2, 69), (0, a0), (0, a1), (0, a2), (0, i1), (0, i2)] [] m0 Q := by
    intro nlp6_3
    induction nlp6_3 with
    | zero =>
      intros
      exact absurd (by assumption : _ < 0) (Nat.not_lt_zero _)
    | succ nlp6_3 ihlp6_3 =>
      intro i1 i2 li1 ui1 li2 ui2 hv0lp6_3 hv1lp6_3 hv2lp6_3 hmlp6_3
      have z5 := zmr F70 a0 a1 (i2).toNat (i2 + 1).toNat ((90 + (6 * i2)) + 1).toNat ((90 + (6 * i2)) + 2).toNat (by omega) (by omega) (by omega)
      refine zw_4 zr_200_6 rfl ?_
      refine zw_7 zr_200_8 rfl ?_
      refine zw_C zr_200_9 (Or.inl rfl) zm_142 rfl rfl ⟨Nat.le_of_ble_eq_true rfl, Nat.le_of_ble_eq_true rfl, Nat.le_of_ble_eq_true rfl, rfl, by decide⟩ (by omega) (P := (fun v m' => zW E (d) 200 12 [(2, 69), (0, a0), (0, a1), (0, a2), (0, i1), (0, i2)] (if v.1 = 9 then [(0, i2)] else v :: [(0, i2)]) m' Q)) ?_ (fun _ _ h => h)
      generalize hQ1 : (fun v m' => zW E (d) 200 12 [(2, 69), (0, a0), (0, a1), (0, a2), (0, i1), (0, i2)] (if v.1 = 9 then [(0, i2)] else v :: [(0, i2)]) m' Q) = Q1
      show zW E (d - 1) 142 0 [(2, 69)] [] m0 Q1
      refine zw_7 zr_142_0 rfl ?_
      refine zw_46r (s := 70) zr_142_1 rfl rfl rfl rfl ?_
      refine zw_push zr_142_4 ?_
      obtain ⟨f6, ef6⟩ : ∃ v, m0 70 823 = v := ⟨_, rfl⟩
      have bf6 : 0 ≤ m0 70 823 ∧ m0 70 823 ≤ 60 := ib_70_meetings hI0 (by omega)
      rw [ef6] at bf6
      refine zw_48k (c := 70) (len := 826) zr_142_7 rfl rfl (by omega) (by omega) (show (823 : Int).toNat = 823 by omega) ef6 ?_
      refine zw_R zr_142_8 (by decide) zm_142 (v := (0, f6)) rfl ?_
      rw [← hQ1]
      show zW E (d) 200 12 [(2, 69), (0, a0), (0, a1), (0, a2), (0, i1), (0, i2)] [(0, f6), (0, i2)] m0 Q
      refine zw_41_3 zr_200_12 ?_ ?_
      · intro h7
        refine zw_4 zr_200_66 rfl ?_
        refine zw_R zr_200_68 (by decide) zm_200 (v := (0, i1)) rfl ?_
        rw [← hQ]; exact ⟨_, rfl, by omega, by omega, rfl, by rw [show F70 823 = i2 by rw [← hG70]; omega]; omega⟩
      · intro h9
        refine zw_4 zr_200_15 rfl ?_
        refine zw_7 zr_200_17 rfl ?_
        refine zw_4 zr_200_18 rfl ?_
        refine zw_3 zr_200_20 rfl ?_
        refine zw_C zr_200_21 (Or.inl rfl) zm_171 rfl rfl ⟨Nat.le_of_ble_eq_true rfl, Nat.le_of_ble_eq_true rfl, Nat.le_of_ble_eq_true rfl, rfl, by decide⟩ (by omega) (P := (fun v m' => zW E (d) 200 24 [(2, 69), (0, a0), (0, a1), (0, a2), (0, i1), (0, i2)] (if v.1 = 9 then [(0, i1)] else v :: [(0, i1)]) m' Q)) ?_ (fun _ _ h => h)
        generalize hQ1 : (fun v m' => zW E (d) 200 24 [(2, 69), (0, a0), (0, a1), (0, a2), (0, i1), (0, i2)] (if v.1 = 9 then [(0, i1)] else v :: [(0, i1)]) m' Q) = Q1
        show zW E (d - 1) 171 0 [(2, 69), (0, i2), (0, a0)] [] m0 Q1
        refine zw_7 zr_171_0 rfl ?_
        refine zw_3 zr_171_1 rfl ?_
        refine zw_push zr_171_2 ?_
        refine zw_C zr_171_3 (Or.inl rfl) zm_144 rfl rfl ⟨Nat.le_of_ble_eq_true rfl, Nat.le_of_ble_eq_true rfl, Nat.le_of_ble_eq_true rfl, rfl, by decide⟩ (by omega) (P := (fun v m' => zW E (d - 1) 171 6 [(2, 69), (0, i2), (0, a0)] (if v.1 = 9 then [] else v :: []) m' Q1)) ?_ (fun _ _ h => h)
        generalize hQ2 : (fun v m' => zW E (d - 1) 171 6 [(2, 69), (0, i2), (0, a0)] (if v.1 = 9 then [] else v :: []) m' Q1) = Q2
        show zW E (d - 1 - 1) 144 0 [(2, 69), (0, i2), (0, 1)] [] m0 Q2
        refine zw_7 zr_144_0 rfl ?_
        refine zw_46r (s := 70) zr_144_1 rfl rfl rfl rfl ?_
        refine zw_push zr_144_4 ?_
        refine zw_push zr_144_6 ?_
        refine zw_3 zr_144_8 rfl ?_
        refine zw_18 zr_144_9 (by omega) ?_
        refine zw_16 zr_144_10 (by omega) ?_
        refine zw_3 zr_144_11 rfl ?_
        refine zw_16 zr_144_12 (by omega) ?_
        refine zw_48 (c := 70) (len := 826) zr_144_13 rfl rfl (by omega) (by omega) ?_
        intro x10 ex10
        have bx10 := ib_70_m1 hI0 (k := (((90 + (6 * i2)) + 1)).toNat) (by omega)
        rw [← ex10] at bx10
        have qx10 : x10 = F70 (((90 + (6 * i2)) + 1)).toNat := by rw [← hG70]; exact ex10
        refine zw_R zr_144_14 (by decide) zm_144 (v := (0, x10)) rfl ?_
        rw [← hQ2]
        show zW E (d - 1) 171 6 [(2, 69), (0, i2), (0, a0)] [(0, x10)] m0 Q1
        refine zw_3 zr_171_6 rfl ?_
        refine zw_41_1 zr_171_7 ?_ ?_
        · intro h11
          refine zw_push zr_171_20 ?_
          refine zw_42 zr_171_21 ?_
          refine zw_R zr_171_25 (by decide) zm_171 (v := (0, 1)) (zRetB (by omega)) ?_
          rw [← hQ1]
          show zW E (d) 200 24 [(2, 69), (0, a0), (0, a1), (0, a2), (0, i1), (0, i2)] [(0, 1), (0, i1)] m0 Q
          refine zw_40_1 zr_200_24 ?_ ?_
          · intro h12; omega
          · intro h13
            refine zw_7 zr_200_27 rfl ?_
            refine zw_4 zr_200_28 rfl ?_
            refine zw_3 zr_200_30 rfl ?_
            refine zw_C zr_200_31 (Or.inl rfl) zm_171 rfl rfl ⟨Nat.le_of_ble_eq_true rfl, Nat.le_of_ble_eq_true rfl, Nat.le_of_ble_eq_true rfl, rfl, by decide⟩ (by omega) (P := (fun v m' => zW E (d) 200 34 [(2, 69), (0, a0), (0, a1), (0, a2), (0, i1), (0, i2)] (if v.1 = 9 then [(0, i1)] else v :: [(0, i1)]) m' Q)) ?_ (fun _ _ h => h)
            generalize hQ1 : (fun v m' => zW E (d) 200 34 [(2, 69), (0, a0), (0, a1), (0, a2), (0, i1), (0, i2)] (if v.1 = 9 then [(0, i1)] else v :: [(0, i1)]) m' Q) = Q1
            show zW E (d - 1) 171 0 [(2, 69), (0, i2), (0, a1)] [] m0 Q1
            refine zw_7 zr_171_0 rfl ?_
            refine zw_3 zr_171_1 rfl ?_
            refine zw_push zr_171_2 ?_
            refine zw_C zr_171_3 (Or.inl rfl) zm_144 rfl rfl ⟨Nat.le_of_ble_eq_true rfl, Nat.le_of_ble_eq_true rfl, Nat.le_of_ble_eq_true rfl, rfl, by decide⟩ (by omega) (P := (fun v m' => zW E (d - 1) 171 6 [(2, 69), (0, i2), (0, a1)] (if v.1 = 9 then [] else v :: []) m' Q1)) ?_ (fun _ _ h => h)
            generalize hQ2 : (fun v m' => zW E (d - 1) 171 6 [(2, 69), (0, i2), (0, a1)] (if v.1 = 9 then [] else v :: []) m' Q1) = Q2
            show zW E (d - 1 - 1) 144 0 [(2, 69), (0, i2), (0, 1)] [] m0 Q2
            refine zw_7 zr_144_0 rfl ?_
            refine zw_46r (s := 70) zr_144_1 rfl rfl rfl rfl ?_
            refine zw_push zr_144_4 ?_
            refine zw_push zr_144_6 ?_
            refine zw_3 zr_144_8 rfl ?_
            refine zw_18 zr_144_9 (by omega) ?_
            refine zw_16 zr_144_10 (by omega) ?_
            refine zw_3 zr_144_11 rfl ?_
            refine zw_16 zr_144_12 (by omega) ?_
            refine zw_48k (c := 70) (len := 826) zr_144_13 rfl rfl (by omega) (by omega) rfl ex10.symm ?_
            refine zw_R zr_144_14 (by decide) zm_144 (v := (0, x10)) rfl ?_
            rw [← hQ2]
            show zW E (d - 1) 171 6 [(2, 69), (0, i2), (0, a1)] [(0, x10)] m0 Q1
            refine zw_3 zr_171_6 rfl ?_
            refine zw_41_1 zr_171_7 ?_ ?_
            · intro h14
              refine zw_push zr_171_20 ?_
              refine zw_42 zr_171_21 ?_
              refine zw_R zr_171_25 (by decide) zm_171 (v := (0, 1)) (zRetB (by omega)) ?_
              rw [← hQ1]
              show zW E (d) 200 34 [(2, 69), (0, a0), (0, a1), (0, a2), (0, i1), (0, i2)] [(0, 1), (0, i1)] m0 Q
              refine zw_40_1 zr_200_34 ?_ ?_
              · intro h15; omega
              · intro h16
                refine zw_3 zr_200_37 rfl ?_
                refine zw_40_1 zr_200_38 ?_ ?_
                · intro h17
                  refine zw_push zr_200_52 ?_
                  refine zw_42 zr_200_53 ?_
                  refine zw_16 zr_200_57 (by omega) ?_
                  refine zw_10 (L' := [(2, 69), (0, a0), (0, a1), (0, a2), (0, (i1 + 1)), (0, i2)]) zr_200_58 (Nat.le_of_ble_eq_true rfl) rfl ?_
                  refine zw_15 (c := 1) (L' := [(2, 69), (0, a0), (0, a1), (0, a2), (0, (i1 + 1)), (0, (i2 + 1))]) zr_200_60 rfl (by decide) (by omega) rfl ?_
                  refine zw_42 zr_200_63 ?_
                  exact zw_less (L := [(2, 69), (0, a0), (0, a1), (0, a2), (0, (i1 + 1)), (0, (i2 + 1))]) ⟨Or.inr rfl, Or.inr rfl, Or.inr rfl, Or.inr rfl, Or.inr rfl, Or.inr rfl, trivial⟩ (ihlp6_3 ((i1 + 1)) ((i2 + 1))  (by omega) (by omega) (by omega) (by omega) (by omega) (by omega) (by omega) (by omega))
                · intro h18
                  refine zw_7 zr_200_41 rfl ?_
                  refine zw_4 zr_200_42 rfl ?_
                  refine zw_push zr_200_44 ?_
                  refine zw_C zr_200_45 (Or.inl rfl) zm_144 rfl rfl ⟨Nat.le_of_ble_eq_true rfl, Nat.le_of_ble_eq_true rfl, Nat.le_of_ble_eq_true rfl, rfl, by decide⟩ (by omega) (P := (fun v m' => zW E (d) 200 48 [(2, 69), (0, a0), (0, a1), (0, a2), (0, i1), (0, i2)] (if v.1 = 9 then [(0, i1)] else v :: [(0, i1)]) m' Q)) ?_ (fun _ _ h => h)
                  generalize hQ1 : (fun v m' => zW E (d) 200 48 [(2, 69), (0, a0), (0, a1), (0, a2), (0, i1), (0, i2)] (if v.1 = 9 then [(0, i1)] else v :: [(0, i1)]) m' Q) = Q1
                  show zW E (d - 1) 144 0 [(2, 69), (0, i2), (0, 3)] [] m0 Q1
                  refine zw_7 zr_144_0 rfl ?_
                  refine zw_46r (s := 70) zr_144_1 rfl rfl rfl rfl ?_
                  refine zw_push zr_144_4 ?_
                  refine zw_push zr_144_6 ?_
                  refine zw_3 zr_144_8 rfl ?_
                  refine zw_18 zr_144_9 (by omega) ?_
                  refine zw_16 zr_144_10 (by omega) ?_
                  refine zw_3 zr_144_11 rfl ?_
                  refine zw_16 zr_144_12 (by omega) ?_
                  refine zw_48 (c := 70) (len := 826) zr_144_13 rfl rfl (by omega) (by omega) ?_
                  intro x19 ex19
                  have bx19 := ib_70_m3 hI0 (k := (((90 + (6 * i2)) + 3)).toNat) (by omega)
                  rw [← ex19] at bx19
                  have qx19 : x19 = F70 (((90 + (6 * i2)) + 3)).toNat := by rw [← hG70]; exact ex19
                  clear ex19
                  refine zw_R zr_144_14 (by decide) zm_144 (v := (0, x19)) rfl ?_
                  rw [← hQ1]
                  show zW E (d) 200 48 [(2, 69), (0, a0), (0, a1), (0, a2), (0, i1), (0, i2)] [(0, x19), (0, i1)] m0 Q
                  refine zw_push zr_200_48 ?_
                  refine zw_41_4 zr_200_49 ?_ ?_
                  · intro h20
                    refine zw_push zr_200_56 ?_
                    refine zw_16 zr_200_57 (by omega) ?_
                    refine zw_10 (L' := [(2, 69), (0, a0), (0, a1), (0, a2), (0, (i1 + 0)), (0, i2)]) zr_200_58 (Nat.le_of_ble_eq_true rfl) rfl ?_
                    refine zw_15 (c := 1) (L' := [(2, 69), (0, a0), (0, a1), (0, a2), (0, (i1 + 0)), (0, (i2 + 1))]) zr_200_60 rfl (by decide) (by omega) rfl ?_
                    refine zw_42 zr_200_63 ?_
                    exact zw_less (L := [(2, 69), (0, a0), (0, a1), (0, a2), (0, (i1 + 0)), (0, (i2 + 1))]) ⟨Or.inr rfl, Or.inr rfl, Or.inr rfl, Or.inr rfl, Or.inr rfl, Or.inr rfl, trivial⟩ (ihlp6_3 ((i1 + 0)) ((i2 + 1))  (by omega) (by omega) (by omega) (by omega) (by omega) (by omega) (by omega) (by omega))
                  · intro h21
                    refine zw_push zr_200_52 ?_
                    refine zw_42 zr_200_53 ?_
                    refine zw_16 zr_200_57 (by omega) ?_
                    refine zw_10 (L' := [(2, 69), (0, a0), (0, a1), (0, a2), (0, (i1 + 1)), (0, i2)]) zr_200_58 (Nat.le_of_ble_eq_true rfl) rfl ?_
                    refine zw_15 (c := 1) (L' := [(2, 69), (0, a0), (0, a1), (0, a2), (0, (i1 + 1)), (0, (i2 + 1))]) zr_200_60 rfl (by decide) (by omega) rfl ?_
                    refine zw_42 zr_200_63 ?_
                    exact zw_less (L := [(2, 69), (0, a0), (0, a1), (0, a2), (0, (i1 + 1)), (0, (i2 + 1))]) ⟨Or.inr rfl, Or.inr rfl, Or.inr rfl, Or.inr rfl, Or.inr rfl, Or.inr rfl, trivial⟩ (ihlp6_3 ((i1 + 1)) ((i2 + 1))  (by omega) (by omega) (by omega) (by omega) (by omega) (by omega) (by omega) (by omega))
            · intro h22
              refine zw_7 zr_171_10 rfl ?_
              refine zw_3 zr_171_11 rfl ?_
              refine zw_push zr_171_12 ?_
              refine zw_C zr_171_13 (Or.inl rfl) zm_144 rfl rfl ⟨Nat.le_of_ble_eq_true rfl, Nat.le_of_ble_eq_true rfl, Nat.le_of_ble_eq_true rfl, rfl, by decide⟩ (by omega) (P := (fun v m' => zW E (d - 1) 171 16 [(2, 69), (0, i2), (0, a1)] (if v.1 = 9 then [] else v :: []) m' Q1)) ?_ (fun _ _ h => h)
              generalize hQ2 : (fun v m' => zW E (d - 1) 171 16 [(2, 69), (0, i2), (0, a1)] (if v.1 = 9 then [] else v :: []) m' Q1) = Q2
              show zW E (d - 1 - 1) 144 0 [(2, 69), (0, i2), (0, 2)] [] m0 Q2
              refine zw_7 zr_144_0 rfl ?_
              refine zw_46r (s := 70) zr_144_1 rfl rfl rfl rfl ?_
              refine zw_push zr_144_4 ?_
              refine zw_push zr_144_6 ?_
              refine zw_3 zr_144_8 rfl ?_
              refine zw_18 zr_144_9 (by omega) ?_
              refine zw_16 zr_144_10 (by omega) ?_
              refine zw_3 zr_144_11 rfl ?_
              refine zw_16 zr_144_12 (by omega) ?_
              refine zw_48 (c := 70) (len := 826) zr_144_13 rfl rfl (by omega) (by omega) ?_
              intro x23 ex23
              have bx23 := ib_70_m2 hI0 (k := (((90 + (6 * i2)) + 2)).toNat) (by omega)
              rw [← ex23] at bx23
              have qx23 : x23 = F70 (((90 + (6 * i2)) + 2)).toNat := by rw [← hG70]; exact ex23
              refine zw_R zr_144_14 (by decide) zm_144 (v := (0, x23)) rfl ?_
              rw [← hQ2]
              show zW E (d - 1) 171 16 [(2, 69), (0, i2), (0, a1)] [(0, x23)] m0 Q1
              refine zw_3 zr_171_16 rfl ?_
              refine zw_41_4 zr_171_17 ?_ ?_
              · intro h24
                refine zw_push zr_171_24 ?_
                refine zw_R zr_171_25 (by decide) zm_171 (v := (0, 0)) (zRetB (by omega)) ?_
                rw [← hQ1]
                show zW E (d) 200 34 [(2, 69), (0, a0), (0, a1), (0, a2), (0, i1), (0, i2)] [(0, 0), (0, i1)] m0 Q
                refine zw_40_1 zr_200_34 ?_ ?_
                · intro h25
                  refine zw_push zr_200_56 ?_
                  refine zw_16 zr_200_57 (by omega) ?_
                  refine zw_10 (L' := [(2, 69), (0, a0), (0, a1), (0, a2), (0, (i1 + 0)), (0, i2)]) zr_200_58 (Nat.le_of_ble_eq_true rfl) rfl ?_
                  refine zw_15 (c := 1) (L' := [(2, 69), (0, a0), (0, a1), (0, a2), (0, (i1 + 0)), (0, (i2 + 1))]) zr_200_60 rfl (by decide) (by omega) rfl ?_
                  refine zw_42 zr_200_63 ?_
                  exact zw_less (L := [(2, 69), (0, a0), (0, a1), (0, a2), (0, (i1 + 0)), (0, (i2 + 1))]) ⟨Or.inr rfl, Or.inr rfl, Or.inr rfl, Or.inr rfl, Or.inr rfl, Or.inr rfl, trivial⟩ (ihlp6_3 ((i1 + 0)) ((i2 + 1))  (by omega) (by omega) (by omega) (by omega) (by omega) (by omega) (by omega) (by omega))
                · intro h26; omega
              · intro h27
                refine zw_push zr_171_20 ?_
                refine zw_42 zr_171_21 ?_
                refine zw_R zr_171_25 (by decide) zm_171 (v := (0, 1)) (zRetB (by omega)) ?_
                rw [← hQ1]
                show zW E (d) 200 34 [(2, 69), (0, a0), (0, a1), (0, a2), (0, i1), (0, i2)] [(0, 1), (0, i1)] m0 Q
                refine zw_40_1 zr_200_34 ?_ ?_
                · intro h28; omega
                · intro h29
                  refine zw_3 zr_200_37 rfl ?_
                  refine zw_40_1 zr_200_38 ?_ ?_
                  · intro h30
                    refine zw_push zr_200_52 ?_
                    refine zw_42 zr_200_53 ?_
                    refine zw_16 zr_200_57 (by omega) ?_
                    refine zw_10 (L' := [(2, 69), (0, a0), (0, a1), (0, a2), (0, (i1 + 1)), (0, i2)]) zr_200_58 (Nat.le_of_ble_eq_true rfl) rfl ?_
                    refine zw_15 (c := 1) (L' := [(2, 69), (0, a0), (0, a1), (0, a2), (0, (i1 + 1)), (0, (i2 + 1))]) zr_200_60 rfl (by decide) (by omega) rfl ?_
                    refine zw_42 zr_200_63 ?_
                    exact zw_less (L := [(2, 69), (0, a0), (0, a1), (0, a2), (0, (i1 + 1)), (0, (i2 + 1))]) ⟨Or.inr rfl, Or.inr rfl, Or.inr rfl, Or.inr rfl, Or.inr rfl, Or.inr rfl, trivial⟩ (ihlp6_3 ((i1 + 1)) ((i2 + 1))  (by omega) (by omega) (by omega) (by omega) (by omega) (by omega) (by omega) (by omega))
                  · intro h31
                    refine zw_7 zr_200_41 rfl ?_
                    refine zw_4 zr_200_42 rfl ?_
                    refine zw_push zr_200_44 ?_
                    refine zw_C zr_200_45 (Or.inl rfl) zm_144 rfl rfl ⟨Nat.le_of_ble_eq_true rfl, Nat.le_of_ble_eq_true rfl, Nat.le_of_ble_eq_true rfl, rfl, by decide⟩ (by omega) (P := (fun v m' => zW E (d) 200 48 [(2, 69), (0, a0), (0, a1), (0, a2), (0, i1), (0, i2)] (if v.1 = 9 then [(0, i1)] else v :: [(0, i1)]) m' Q)) ?_ (fun _ _ h => h)
                    generalize hQ1 : (fun v m' => zW E (d) 200 48 [(2, 69), (0, a0), (0, a1), (0, a2), (0, i1), (0, i2)] (if v.1 = 9 then [(0, i1)] else v :: [(0, i1)]) m' Q) = Q1
                    show zW E (d - 1) 144 0 [(2, 69), (0, i2), (0, 3)] [] m0 Q1
                    refine zw_7 zr_144_0 rfl ?_
                    refine zw_46r (s := 70) zr_144_1 rfl rfl rfl rfl ?_
                    refine zw_push zr_144_4 ?_
                    refine zw_push zr_144_6 ?_
                    refine zw_3 zr_144_8 rfl ?_
                    refine zw_18 zr_144_9 (by omega) ?_
                    refine zw_16 zr_144_10 (by omega) ?_
                    refine zw_3 zr_144_11 rfl ?_
                    refine zw_16 zr_144_12 (by omega) ?_
                    refine zw_48 (c := 70) (len := 826) zr_144_13 rfl rfl (by omega) (by omega) ?_
                    intro x32 ex32
                    have bx32 := ib_70_m3 hI0 (k := (((90 + (6 * i2)) + 3)).toNat) (by omega)
                    rw [← ex32] at bx32
                    have qx32 : x32 = F70 (((90 + (6 * i2)) + 3)).toNat := by rw [← hG70]; exact ex32
                    clear ex32
                    refine zw_R zr_144_14 (by decide) zm_144 (v := (0, x32)) rfl ?_
                    rw [← hQ1]
                    show zW E (d) 200 48 [(2, 69), (0, a0), (0, a1), (0, a2), (0, i1), (0, i2)] [(0, x32), (0, i1)] m0 Q
                    refine zw_push zr_200_48 ?_
                    refine zw_41_4 zr_200_49 ?_ ?_
                    · intro h33
                      refine zw_push zr_200_56 ?_
                      refine zw_16 zr_200_57 (by omega) ?_
                      refine zw_10 (L' := [(2, 69), (0, a0), (0, a1), (0, a2), (0, (i1 + 0)), (0, i2)]) zr_200_58 (Nat.le_of_ble_eq_true rfl) rfl ?_
                      refine zw_15 (c := 1) (L' := [(2, 69), (0, a0), (0, a1), (0, a2), (0, (i1 + 0)), (0, (i2 + 1))]) zr_200_60 rfl (by decide) (by omega) rfl ?_
                      refine zw_42 zr_200_63 ?_
                      exact zw_less (L := [(2, 69), (0, a0), (0, a1), (0, a2), (0, (i1 + 0)), (0, (i2 + 1))]) ⟨Or.inr rfl, Or.inr rfl, Or.inr rfl, Or.inr rfl, Or.inr rfl, Or.inr rfl, trivial⟩ (ihlp6_3 ((i1 + 0)) ((i2 + 1))  (by omega) (by omega) (by omega) (by omega) (by omega) (by omega) (by omega) (by omega))
                    · intro h34
                      refine zw_push zr_200_52 ?_
                      refine zw_42 zr_200_53 ?_
                      refine zw_16 zr_200_57 (by omega) ?_
                      refine zw_10 (L' := [(2, 69), (0, a0), (0, a1), (0, a2), (0, (i1 + 1)), (0, i2)]) zr_200_58 (Nat.le_of_ble_eq_true rfl) rfl ?_
                      refine zw_15 (c := 1) (L' := [(2, 69), (0, a0), (0, a1), (0, a2), (0, (i1 + 1)), (0, (i2 + 1))]) zr_200_60 rfl (by decide) (by omega) rfl ?_
                      refine zw_42 zr_200_63 ?_
                      exact zw_less (L := [(2, 69), (0, a0), (0, a1), (0, a2), (0, (i1 + 1)), (0, (i2 + 1))]) ⟨Or.inr rfl, Or.inr rfl, Or.inr rfl, Or.inr rfl, Or.inr rfl, Or.inr rfl, trivial⟩ (ihlp6_3 ((i1 + 1)) ((i2 + 1))  (by omega) (by omega) (by omega) (by omega) (by omega) (by omega) (by omega) (by omega))
        · intro h35
          refine zw_7 zr_171_10 rfl ?_
          refine zw_3 zr_171_11 rfl ?_
          refine zw_push zr_171_12 ?_
          refine zw_C zr_171_13 (Or.inl rfl) zm_144 rfl rfl ⟨Nat.le_of_ble_eq_true rfl, Nat.le_of_ble_eq_true rfl, Nat.le_of_ble_eq_true rfl, rfl, by decide⟩ (by omega) (P := (fun v m' => zW E (d - 1) 171 16 [(2, 69), (0, i2), (0, a0)] (if v.1 = 9 then [] else v :: []) m' Q1)) ?_ (fun _ _ h => h)
          generalize hQ2 : (fun v m' => zW E (d - 1) 171 16 [(2, 69), (0, i2), (0, a0)] (if v.1 = 9 then [] else v :: []) m' Q1) = Q2
          show zW E (d - 1 - 1) 144 0 [(2, 69), (0, i2), (0, 2)] [] m0 Q2
          refine zw_7 zr_144_0 rfl ?_
          refine zw_46r (s := 70) zr_144_1 rfl rfl rfl rfl ?_
          refine zw_push zr_144_4 ?_
          refine zw_push zr_144_6 ?_
          refine zw_3 zr_144_8 rfl ?_
          refine zw_18 zr_144_9 (by omega) ?_
          refine zw_16 zr_144_10 (by omega) ?_
          refine zw_3 zr_144_11 rfl ?_
          refine zw_16 zr_144_12 (by omega) ?_
          refine zw_48 (c := 70) (len := 826) zr_144_13 rfl rfl (by omega) (by omega) ?_
          intro x36 ex36
          have bx36 := ib_70_m2 hI0 (k := (((90 + (6 * i2)) + 2)).toNat) (by omega)
          rw [← ex36] at bx36
          have qx36 : x36 = F70 (((90 + (6 * i2)) + 2)).toNat := by rw [← hG70]; exact ex36
          refine zw_R zr_144_14 (by decide) zm_144 (v := (0, x36)) rfl ?_
          rw [← hQ2]
          show zW E (d - 1) 171 16 [(2, 69), (0, i2), (0, a0)] [(0, x36)] m0 Q1
          refine zw_3 zr_171_16 rfl ?_
          refine zw_41_4 zr_171_17 ?_ ?_
          · intro h37
            refine zw_push zr_171_24 ?_
            refine zw_R zr_171_25 (by decide) zm_171 (v := (0, 0)) (zRetB (by omega)) ?_
            rw [← hQ1]
            show zW E (d) 200 24 [(2, 69), (0, a0), (0, a1), (0, a2), (0, i1), (0, i2)] [(0, 0), (0, i1)] m0 Q
            refine zw_40_1 zr_200_24 ?_ ?_
            · intro h38
              refine zw_push zr_200_56 ?_
              refine zw_16 zr_200_57 (by omega) ?_
              refine zw_10 (L' := [(2, 69), (0, a0), (0, a1), (0, a2), (0, (i1 + 0)), (0, i2)]) zr_200_58 (Nat.le_of_ble_eq_true rfl) rfl ?_
              refine zw_15 (c := 1) (L' := [(2, 69), (0, a0), (0, a1), (0, a2), (0, (i1 + 0)), (0, (i2 + 1))]) zr_200_60 rfl (by decide) (by omega) rfl ?_
              refine zw_42 zr_200_63 ?_
              exact zw_less (L := [(2, 69), (0, a0), (0, a1), (0, a2), (0, (i1 + 0)), (0, (i2 + 1))]) ⟨Or.inr rfl, Or.inr rfl, Or.inr rfl, Or.inr rfl, Or.inr rfl, Or.inr rfl, trivial⟩ (ihlp6_3 ((i1 + 0)) ((i2 + 1))  (by omega) (by omega) (by omega) (by omega) (by omega) (by omega) (by omega) (by omega))
            · intro h39; omega
          · intro h40
            refine zw_push zr_171_20 ?_
            refine zw_42 zr_171_21 ?_
            refine zw_R zr_171_25 (by decide) zm_171 (v := (0, 1)) (zRetB (by omega)) ?_
            rw [← hQ1]
            show zW E (d) 200 24 [(2, 69), (0, a0), (0, a1), (0, a2), (0, i1), (0, i2)] [(0, 1), (0, i1)] m0 Q
            refine zw_40_1 zr_200_24 ?_ ?_
            · intro h41; omega
            · intro h42
              refine zw_7 zr_200_27 rfl ?_
              refine zw_4 zr_200_28 rfl ?_
              refine zw_3 zr_200_30 rfl ?_
              refine zw_C zr_200_31 (Or.inl rfl) zm_171 rfl rfl ⟨Nat.le_of_ble_eq_true rfl, Nat.le_of_ble_eq_true rfl, Nat.le_of_ble_eq_true rfl, rfl, by decide⟩ (by omega) (P := (fun v m' => zW E (d) 200 34 [(2, 69), (0, a0), (0, a1), (0, a2), (0, i1), (0, i2)] (if v.1 = 9 then [(0, i1)] else v :: [(0, i1)]) m' Q)) ?_ (fun _ _ h => h)
              generalize hQ1 : (fun v m' => zW E (d) 200 34 [(2, 69), (0, a0), (0, a1), (0, a2), (0, i1), (0, i2)] (if v.1 = 9 then [(0, i1)] else v :: [(0, i1)]) m' Q) = Q1
              show zW E (d - 1) 171 0 [(2, 69), (0, i2), (0, a1)] [] m0 Q1
              refine zw_7 zr_171_0 rfl ?_
              refine zw_3 zr_171_1 rfl ?_
              refine zw_push zr_171_2 ?_
              refine zw_C zr_171_3 (Or.inl rfl) zm_144 rfl rfl ⟨Nat.le_of_ble_eq_true rfl, Nat.le_of_ble_eq_true rfl, Nat.le_of_ble_eq_true rfl, rfl, by decide⟩ (by omega) (P := (fun v m' => zW E (d - 1) 171 6 [(2, 69), (0, i2), (0, a1)] (if v.1 = 9 then [] else v :: []) m' Q1)) ?_ (fun _ _ h => h)
              generalize hQ2 : (fun v m' => zW E (d - 1) 171 6 [(2, 69), (0, i2), (0, a1)] (if v.1 = 9 then [] else v :: []) m' Q1) = Q2
              show zW E (d - 1 - 1) 144 0 [(2, 69), (0, i2), (0, 1)] [] m0 Q2
              refine zw_7 zr_144_0 rfl ?_
              refine zw_46r (s := 70) zr_144_1 rfl rfl rfl rfl ?_
              refine zw_push zr_144_4 ?_
              refine zw_push zr_144_6 ?_
              refine zw_3 zr_144_8 rfl ?_
              refine zw_18 zr_144_9 (by omega) ?_
              refine zw_16 zr_144_10 (by omega) ?_
              refine zw_3 zr_144_11 rfl ?_
              refine zw_16 zr_144_12 (by omega) ?_
              refine zw_48k (c := 70) (len := 826) zr_144_13 rfl rfl (by omega) (by omega) rfl ex10.symm ?_
              refine zw_R zr_144_14 (by decide) zm_144 (v := (0, x10)) rfl ?_
              rw [← hQ2]
              show zW E (d - 1) 171 6 [(2, 69), (0, i2), (0, a1)] [(0, x10)] m0 Q1
              refine zw_3 zr_171_6 rfl ?_
              refine zw_41_1 zr_171_7 ?_ ?_
              · intro h43
                refine zw_push zr_171_20 ?_
                refine zw_42 zr_171_21 ?_
                refine zw_R zr_171_25 (by decide) zm_171 (v := (0, 1)) (zRetB (by omega)) ?_
                rw [← hQ1]
                show zW E (d) 200 34 [(2, 69), (0, a0), (0, a1), (0, a2), (0, i1), (0, i2)] [(0, 1), (0, i1)] m0 Q
                refine zw_40_1 zr_200_34 ?_ ?_
                · intro h44; omega
                · intro h45
                  refine zw_3 zr_200_37 rfl ?_
                  refine zw_40_1 zr_200_38 ?_ ?_
                  · intro h46
                    refine zw_push zr_200_52 ?_
                    refine zw_42 zr_200_53 ?_
                    refine zw_16 zr_200_57 (by omega) ?_
                    refine zw_10 (L' := [(2, 69), (0, a0), (0, a1), (0, a2), (0, (i1 + 1)), (0, i2)]) zr_200_58 (Nat.le_of_ble_eq_true rfl) rfl ?_
                    refine zw_15 (c := 1) (L' := [(2, 69), (0, a0), (0, a1), (0, a2), (0, (i1 + 1)), (0, (i2 + 1))]) zr_200_60 rfl (by decide) (by omega) rfl ?_
                    refine zw_42 zr_200_63 ?_
                    exact zw_less (L := [(2, 69), (0, a0), (0, a1), (0, a2), (0, (i1 + 1)), (0, (i2 + 1))]) ⟨Or.inr rfl, Or.inr rfl, Or.inr rfl, Or.inr rfl, Or.inr rfl, Or.inr rfl, trivial⟩ (ihlp6_3 ((i1 + 1)) ((i2 + 1))  (by omega) (by omega) (by omega) (by omega) (by omega) (by omega) (by omega) (by omega))
                  · intro h47
                    refine zw_7 zr_200_41 rfl ?_
                    refine zw_4 zr_200_42 rfl ?_
                    refine zw_push zr_200_44 ?_
                    refine zw_C zr_200_45 (Or.inl rfl) zm_144 rfl rfl ⟨Nat.le_of_ble_eq_true rfl, Nat.le_of_ble_eq_true rfl, Nat.le_of_ble_eq_true rfl, rfl, by decide⟩ (by omega) (P := (fun v m' => zW E (d) 200 48 [(2, 69), (0, a0), (0, a1), (0, a2), (0, i1), (0, i2)] (if v.1 = 9 then [(0, i1)] else v :: [(0, i1)]) m' Q)) ?_ (fun _ _ h => h)
                    generalize hQ1 : (fun v m' => zW E (d) 200 48 [(2, 69), (0, a0), (0, a1), (0, a2), (0, i1), (0, i2)] (if v.1 = 9 then [(0, i1)] else v :: [(0, i1)]) m' Q) = Q1
                    show zW E (d - 1) 144 0 [(2, 69), (0, i2), (0, 3)] [] m0 Q1
                    refine zw_7 zr_144_0 rfl ?_
                    refine zw_46r (s := 70) zr_144_1 rfl rfl rfl rfl ?_
                    refine zw_push zr_144_4 ?_
                    refine zw_push zr_144_6 ?_
                    refine zw_3 zr_144_8 rfl ?_
                    refine zw_18 zr_144_9 (by omega) ?_
                    refine zw_16 zr_144_10 (by omega) ?_
                    refine zw_3 zr_144_11 rfl ?_
                    refine zw_16 zr_144_12 (by omega) ?_
                    refine zw_48 (c := 70) (len := 826) zr_144_13 rfl rfl (by omega) (by omega) ?_
                    intro x48 ex48
                    have bx48 := ib_70_m3 hI0 (k := (((90 + (6 * i2)) + 3)).toNat) (by omega)
                    rw [← ex48] at bx48
                    have qx48 : x48 = F70 (((90 + (6 * i2)) + 3)).toNat := by rw [← hG70]; exact ex48
                    clear ex48
                    refine zw_R zr_144_14 (by decide) zm_144 (v := (0, x48)) rfl ?_
                    rw [← hQ1]
                    show zW E (d) 200 48 [(2, 69), (0, a0), (0, a1), (0, a2), (0, i1), (0, i2)] [(0, x48), (0, i1)] m0 Q
                    refine zw_push zr_200_48 ?_
                    refine zw_41_4 zr_200_49 ?_ ?_
                    · intro h49
                      refine zw_push zr_200_56 ?_
                      refine zw_16 zr_200_57 (by omega) ?_
                      refine zw_10 (L' := [(2, 69), (0, a0), (0, a1), (0, a2), (0, (i1 + 0)), (0, i2)]) zr_200_58 (Nat.le_of_ble_eq_true rfl) rfl ?_
                      refine zw_15 (c := 1) (L' := [(2, 69), (0, a0), (0, a1), (0, a2), (0, (i1 + 0)), (0, (i2 + 1))]) zr_200_60 rfl (by decide) (by omega) rfl ?_
                      refine zw_42 zr_200_63 ?_
                      exact zw_less (L := [(2, 69), (0, a0), (0, a1), (0, a2), (0, (i1 + 0)), (0, (i2 + 1))]) ⟨Or.inr rfl, Or.inr rfl, Or.inr rfl, Or.inr rfl, Or.inr rfl, Or.inr rfl, trivial⟩ (ihlp6_3 ((i1 + 0)) ((i2 + 1))  (by omega) (by omega) (by omega) (by omega) (by omega) (by omega) (by omega) (by omega))
                    · intro h50
                      refine zw_push zr_200_52 ?_
                      refine zw_42 zr_200_53 ?_
                      refine zw_16 zr_200_57 (by omega) ?_
                      refine zw_10 (L' := [(2, 69), (0, a0), (0, a1), (0, a2), (0, (i1 + 1)), (0, i2)]) zr_200_58 (Nat.le_of_ble_eq_true rfl) rfl ?_
                      refine zw_15 (c := 1) (L' := [(2, 69), (0, a0), (0, a1), (0, a2), (0, (i1 + 1)), (0, (i2 + 1))]) zr_200_60 rfl (by decide) (by omega) rfl ?_
                      refine zw_42 zr_200_63 ?_
                      exact zw_less (L := [(2, 69), (0, a0), (0, a1), (0, a2), (0, (i1 + 1)), (0, (i2 + 1))]) ⟨Or.inr rfl, Or.inr rfl, Or.inr rfl, Or.inr rfl, Or.inr rfl, Or.inr rfl, trivial⟩ (ihlp6_3 ((i1 + 1)) ((i2 + 1))  (by omega) (by omega) (by omega) (by omega) (by omega) (by omega) (by omega) (by omega))
              · intro h51
                refine zw_7 zr_171_10 rfl ?_
                refine zw_3 zr_171_11 rfl ?_
                refine zw_push zr_171_12 ?_
                refine zw_C zr_171_13 (Or.inl rfl) zm_144 rfl rfl ⟨Nat.le_of_ble_eq_true rfl, Nat.le_of_ble_eq_true rfl, Nat.le_of_ble_eq_true rfl, rfl, by decide⟩ (by omega) (P := (fun v m' => zW E (d - 1) 171 16 [(2, 69), (0, i2), (0, a1)] (if v.1 = 9 then [] else v :: []) m' Q1)) ?_ (fun _ _ h => h)
                generalize hQ2 : (fun v m' => zW E (d - 1) 171 16 [(2, 69), (0, i2), (0, a1)] (if v.1 = 9 then [] else v :: []) m' Q1) = Q2
                show zW E (d - 1 - 1) 144 0 [(2, 69), (0, i2), (0, 2)] [] m0 Q2
                refine zw_7 zr_144_0 rfl ?_
                refine zw_46r (s := 70) zr_144_1 rfl rfl rfl rfl ?_
                refine zw_push zr_144_4 ?_
                refine zw_push zr_144_6 ?_
                refine zw_3 zr_144_8 rfl ?_
                refine zw_18 zr_144_9 (by omega) ?_
                refine zw_16 zr_144_10 (by omega) ?_
                refine zw_3 zr_144_11 rfl ?_
                refine zw_16 zr_144_12 (by omega) ?_
                refine zw_48k (c := 70) (len := 826) zr_144_13 rfl rfl (by omega) (by omega) rfl ex36.symm ?_
                refine zw_R zr_144_14 (by decide) zm_144 (v := (0, x36)) rfl ?_
                rw [← hQ2]
                show zW E (d - 1) 171 16 [(2, 69), (0, i2), (0, a1)] [(0, x36)] m0 Q1
                refine zw_3 zr_171_16 rfl ?_
                refine zw_41_4 zr_171_17 ?_ ?_
                · intro h52
                  refine zw_push zr_171_24 ?_
                  refine zw_R zr_171_25 (by decide) zm_171 (v := (0, 0)) (zRetB (by omega)) ?_
                  rw [← hQ1]
                  show zW E (d) 200 34 [(2, 69), (0, a0), (0, a1), (0, a2), (0, i1), (0, i2)] [(0, 0), (0, i1)] m0 Q
                  refine zw_40_1 zr_200_34 ?_ ?_
                  · intro h53
                    refine zw_push zr_200_56 ?_
                    refine zw_16 zr_200_57 (by omega) ?_
                    refine zw_10 (L' := [(2, 69), (0, a0), (0, a1), (0, a2), (0, (i1 + 0)), (0, i2)]) zr_200_58 (Nat.le_of_ble_eq_true rfl) rfl ?_
                    refine zw_15 (c := 1) (L' := [(2, 69), (0, a0), (0, a1), (0, a2), (0, (i1 + 0)), (0, (i2 + 1))]) zr_200_60 rfl (by decide) (by omega) rfl ?_
                    refine zw_42 zr_200_63 ?_
                    exact zw_less (L := [(2, 69), (0, a0), (0, a1), (0, a2), (0, (i1 + 0)), (0, (i2 + 1))]) ⟨Or.inr rfl, Or.inr rfl, Or.inr rfl, Or.inr rfl, Or.inr rfl, Or.inr rfl, trivial⟩ (ihlp6_3 ((i1 + 0)) ((i2 + 1))  (by omega) (by omega) (by omega) (by omega) (by omega) (by omega) (by omega) (by omega))
                  · intro h54; omega
                · intro h55
                  refine zw_push zr_171_20 ?_
                  refine zw_42 zr_171_21 ?_
                  refine zw_R zr_171_25 (by decide) zm_171 (v := (0, 1)) (zRetB (by omega)) ?_
                  rw [← hQ1]
                  show zW E (d) 200 34 [(2, 69), (0, a0), (0, a1), (0, a2), (0, i1), (0, i2)] [(0, 1), (0, i1)] m0 Q
                  refine zw_40_1 zr_200_34 ?_ ?_
                  · intro h56; omega
                  · intro h57
                    refine zw_3 zr_200_37 rfl ?_
                    refine zw_40_1 zr_200_38 ?_ ?_
                    · intro h58
                      refine zw_push zr_200_52 ?_
                      refine zw_42 zr_200_53 ?_
                      refine zw_16 zr_200_57 (by omega) ?_
                      refine zw_10 (L' := [(2, 69), (0, a0), (0, a1), (0, a2), (0, (i1 + 1)), (0, i2)]) zr_200_58 (Nat.le_of_ble_eq_true rfl) rfl ?_
                      refine zw_15 (c := 1) (L' := [(2, 69), (0, a0), (0, a1), (0, a2), (0, (i1 + 1)), (0, (i2 + 1))]) zr_200_60 rfl (by decide) (by omega) rfl ?_
                      refine zw_42 zr_200_63 ?_
                      exact zw_less (L := [(2, 69), (0, a0), (0, a1), (0, a2), (0, (i1 + 1)), (0, (i2 + 1))]) ⟨Or.inr rfl, Or.inr rfl, Or.inr rfl, Or.inr rfl, Or.inr rfl, Or.inr rfl, trivial⟩ (ihlp6_3 ((i1 + 1)) ((i2 + 1))  (by omega) (by omega) (by omega) (by omega) (by omega) (by omega) (by omega) (by omega))
                    · intro h59
                      refine zw_7 zr_200_41 rfl ?_
                      refine zw_4 zr_200_42 rfl ?_
                      refine zw_push zr_200_44 ?_
                      refine zw_C zr_200_45 (Or.inl rfl) zm_144 rfl rfl ⟨Nat.le_of_ble_eq_true rfl, Nat.le_of_ble_eq_true rfl, Nat.le_of_ble_eq_true rfl, rfl, by decide⟩ (by omega) (P := (fun v m' => zW E (d) 200 48 [(2, 69), (0, a0), (0, a1), (0, a2), (0, i1), (0, i2)] (if v.1 = 9 then [(0, i1)] else v :: [(0, i1)]) m' Q)) ?_ (fun _ _ h => h)
                      generalize hQ1 : (fun v m' => zW E (d) 200 48 [(2, 69), (0, a0), (0, a1), (0, a2), (0, i1), (0, i2)] (if v.1 = 9 then [(0, i1)] else v :: [(0, i1)]) m' Q) = Q1
                      show zW E (d - 1) 144 0 [(2, 69), (0, i2), (0, 3)] [] m0 Q1
                      refine zw_7 zr_144_0 rfl ?_
                      refine zw_46r (s := 70) zr_144_1 rfl rfl rfl rfl ?_
                      refine zw_push zr_144_4 ?_
                      refine zw_push zr_144_6 ?_
                      refine zw_3 zr_144_8 rfl ?_
                      refine zw_18 zr_144_9 (by omega) ?_
                      refine zw_16 zr_144_10 (by omega) ?_
                      refine zw_3 zr_144_11 rfl ?_
                      refine zw_16 zr_144_12 (by omega) ?_
                      refine zw_48 (c := 70) (len := 826) zr_144_13 rfl rfl (by omega) (by omega) ?_
                      intro x60 ex60
                      have bx60 := ib_70_m3 hI0 (k := (((90 + (6 * i2)) + 3)).toNat) (by omega)
                      rw [← ex60] at bx60
                      have qx60 : x60 = F70 (((90 + (6 * i2)) + 3)).toNat := by rw [← hG70]; exact ex60
                      clear ex60
                      refine zw_R zr_144_14 (by decide) zm_144 (v := (0, x60)) rfl ?_
                      rw [← hQ1]
                      show zW E (d) 200 48 [(2, 69), (0, a0), (0, a1), (0, a2), (0, i1), (0, i2)] [(0, x60), (0, i1)] m0 Q
                      refine zw_push zr_200_48 ?_
                      refine zw_41_4 zr_200_49 ?_ ?_
                      · intro h61
                        refine zw_push zr_200_56 ?_
                        refine zw_16 zr_200_57 (by omega) ?_
                        refine zw_10 (L' := [(2, 69), (0, a0), (0, a1), (0, a2), (0, (i1 + 0)), (0, i2)]) zr_200_58 (Nat.le_of_ble_eq_true rfl) rfl ?_
                        refine zw_15 (c := 1) (L' := [(2, 69), (0, a0), (0, a1), (0, a2), (0, (i1 + 0)), (0, (i2 + 1))]) zr_200_60 rfl (by decide) (by omega) rfl ?_
                        refine zw_42 zr_200_63 ?_
                        exact zw_less (L := [(2, 69), (0, a0), (0, a1), (0, a2), (0, (i1 + 0)), (0, (i2 + 1))]) ⟨Or.inr rfl, Or.inr rfl, Or.inr rfl, Or.inr rfl, Or.inr rfl, Or.inr rfl, trivial⟩ (ihlp6_3 ((i1 + 0)) ((i2 + 1))  (by omega) (by omega) (by omega) (by omega) (by omega) (by omega) (by omega) (by omega))
                      · intro h62
                        refine zw_push zr_200_52 ?_
                        refine zw_42 zr_200_53 ?_
                        refine zw_16 zr_200_57 (by omega) ?_
                        refine zw_10 (L' := [(2, 69), (0, a0), (0, a1), (0, a2), (0, (i1 + 1)), (0, i2)]) zr_200_58 (Nat.le_of_ble_eq_true rfl) rfl ?_
                        refine zw_15 (c := 1) (L' := [(2, 69), (0, a0), (0, a1), (0, a2), (0, (i1 + 1)), (0, (i2 + 1))]) zr_200_60 rfl (by decide) (by omega) rfl ?_
                        refine zw_42 zr_200_63 ?_
                        exact zw_less (L := [(2, 69), (0, a0), (0, a1), (0, a2), (0, (i1 + 1)), (0, (i2 + 1))]) ⟨Or.inr rfl, Or.inr rfl, Or.inr rfl, Or.inr rfl, Or.inr rfl, Or.inr rfl, trivial⟩ (ihlp6_3 ((i1 + 1)) ((i2 + 1))  (by omega) (by omega) (by omega) (by omega) (by omega) (by omega) (by omega) (by omega))
  exact lp6_3 _ (0) (0)  (by omega) (by omega) (by omega) (by omega) (by omega) (Or.inr rfl) (by have := ib_70_meetings hI0 (k := 823) rfl; omega) (Nat.lt_succ_self _)

set_option maxHeartbeats 8000000 in
theorem th_201 {E : zE} {d : Nat} {m0 : zM} {a0 : Int} {a1 : Int} (hd : 1 ≤ d) (hI0 : zInv m0) (ha0 : 1 ≤ a0 ∧ a0 ≤ 9) (ha1 : (-50) ≤ a1 ∧ a1 ≤ 15) : zC E d 201 [(1, a0), (0, a1)] m0 (fun v m' => ∃ r : Int, v = (1, r) ∧ 1 ≤ r ∧ r ≤ 205891132094649 ∧ m0 = m') := by
  generalize hQ : (fun (v : zV) (m' : zM) => ∃ r : Int, v = (1, r) ∧ 1 ≤ r ∧ r ≤ 205891132094649 ∧ m0 = m') = Q
  show zW E d 201 0 [(1, a0), (9, 0), (0, a1), (9, 0), (9, 0), (9, 0)] [] m0 Q
  refine zw_push zr_201_0 ?_
  refine zw_13 (L' := [(1, a0), (9, 0), (0, a1), (1, 1), (9, 0), (9, 0)]) zr_201_1 (Nat.le_of_ble_eq_true rfl) rfl ?_
  refine zw_push zr_201_2 ?_
  refine zw_10 (L' := [(1, a0), (9, 0), (0, a1), (1, 1), (9, 0), (0, 0)]) zr_201_3 (Nat.le_of_ble_eq_true rfl) rfl ?_
  refine zw_4 zr_201_5 rfl ?_
  refine zw_3 zr_201_7 rfl ?_
  refine zw_41_3 zr_201_8 ?_ ?_
  · intro h1
    refine zw_5 zr_201_21 rfl ?_
    refine zw_R zr_201_22 (by decide) zm_201 (v := (1, 1)) rfl ?_
    rw [← hQ]; exact ⟨_, rfl, by omega, by omega, rfl⟩
  · intro h2
    refine zw_5 zr_201_11 rfl ?_
    refine zw_5 zr_201_12 rfl ?_
    refine zw_29 zr_201_13 (by omega) ?_
    refine zw_13 (L' := [(1, a0), (9, 0), (0, a1), (1, (1 * a0)), (9, 0), (0, 0)]) zr_201_14 (Nat.le_of_ble_eq_true rfl) rfl ?_
    refine zw_15 (c := 1) (L' := [(1, a0), (9, 0), (0, a1), (1, (1 * a0)), (9, 0), (0, (0 + 1))]) zr_201_15 rfl (by decide) (by omega) rfl ?_
    refine zw_42 zr_201_18 ?_
    refine zw_4 zr_201_5 rfl ?_
    refine zw_3 zr_201_7 rfl ?_
    refine zw_41_3 zr_201_8 ?_ ?_
    · intro h3
      refine zw_5 zr_201_21 rfl ?_
      refine zw_R zr_201_22 (by decide) zm_201 (v := (1, (1 * a0))) rfl ?_
      rw [← hQ]; exact ⟨_, rfl, by omega, by omega, rfl⟩
    · intro h4
      refine zw_5 zr_201_11 rfl ?_
      refine zw_5 zr_201_12 rfl ?_
      refine zw_29p (A := 9) (B := 9) zr_201_13 (by omega) (by omega) (by omega) (by omega) (by decide) ?_
      intro x5 hx5a hx5b
      refine zw_13 (L' := [(1, a0), (9, 0), (0, a1), (1, x5), (9, 0), (0, (0 + 1))]) zr_201_14 (Nat.le_of_ble_eq_true rfl) rfl ?_
      refine zw_15 (c := 1) (L' := [(1, a0), (9, 0), (0, a1), (1, x5), (9, 0), (0, ((0 + 1) + 1))]) zr_201_15 rfl (by decide) (by omega) rfl ?_
      refine zw_42 zr_201_18 ?_
      refine zw_4 zr_201_5 rfl ?_
      refine zw_3 zr_201_7 rfl ?_
      refine zw_41_3 zr_201_8 ?_ ?_
      · intro h6
        refine zw_5 zr_201_21 rfl ?_
        refine zw_R zr_201_22 (by decide) zm_201 (v := (1, x5)) rfl ?_
        rw [← hQ]; exact ⟨_, rfl, by omega, by omega, rfl⟩
      · intro h7
        refine zw_5 zr_201_11 rfl ?_
        refine zw_5 zr_201_12 rfl ?_
        refine zw_29p (A := 81) (B := 9) zr_201_13 (by omega) (by omega) (by omega) (by omega) (by decide) ?_
        intro x8 hx8a hx8b
        refine zw_13 (L' := [(1, a0), (9, 0), (0, a1), (1, x8), (9, 0), (0, ((0 + 1) + 1))]) zr_201_14 (Nat.le_of_ble_eq_true rfl) rfl ?_
        refine zw_15 (c := 1) (L' := [(1, a0), (9, 0), (0, a1), (1, x8), (9, 0), (0, (((0 + 1) + 1) + 1))]) zr_201_15 rfl (by decide) (by omega) rfl ?_
        refine zw_42 zr_201_18 ?_
        refine zw_4 zr_201_5 rfl ?_
        refine zw_3 zr_201_7 rfl ?_
        refine zw_41_3 zr_201_8 ?_ ?_
        · intro h9
          refine zw_5 zr_201_21 rfl ?_
          refine zw_R zr_201_22 (by decide) zm_201 (v := (1, x8)) rfl ?_
          rw [← hQ]; exact ⟨_, rfl, by omega, by omega, rfl⟩
        · intro h10
          refine zw_5 zr_201_11 rfl ?_
          refine zw_5 zr_201_12 rfl ?_
          refine zw_29p (A := 729) (B := 9) zr_201_13 (by omega) (by omega) (by omega) (by omega) (by decide) ?_
          intro x11 hx11a hx11b
          refine zw_13 (L' := [(1, a0), (9, 0), (0, a1), (1, x11), (9, 0), (0, (((0 + 1) + 1) + 1))]) zr_201_14 (Nat.le_of_ble_eq_true rfl) rfl ?_
          refine zw_15 (c := 1) (L' := [(1, a0), (9, 0), (0, a1), (1, x11), (9, 0), (0, ((((0 + 1) + 1) + 1) + 1))]) zr_201_15 rfl (by decide) (by omega) rfl ?_
          refine zw_42 zr_201_18 ?_
          refine zw_4 zr_201_5 rfl ?_
          refine zw_3 zr_201_7 rfl ?_
          refine zw_41_3 zr_201_8 ?_ ?_
          · intro h12
            refine zw_5 zr_201_21 rfl ?_
            refine zw_R zr_201_22 (by decide) zm_201 (v := (1, x11)) rfl ?_
            rw [← hQ]; exact ⟨_, rfl, by omega, by omega, rfl⟩
          · intro h13
            refine zw_5 zr_201_11 rfl ?_
            refine zw_5 zr_201_12 rfl ?_
            refine zw_29p (A := 6561) (B := 9) zr_201_13 (by omega) (by omega) (by omega) (by omega) (by decide) ?_
            intro x14 hx14a hx14b
            refine zw_13 (L' := [(1, a0), (9, 0), (0, a1), (1, x14), (9, 0), (0, ((((0 + 1) + 1) + 1) + 1))]) zr_201_14 (Nat.le_of_ble_eq_true rfl) rfl ?_
            refine zw_15 (c := 1) (L' := [(1, a0), (9, 0), (0, a1), (1, x14), (9, 0), (0, (((((0 + 1) + 1) + 1) + 1) + 1))]) zr_201_15 rfl (by decide) (by omega) rfl ?_
            refine zw_42 zr_201_18 ?_
            refine zw_4 zr_201_5 rfl ?_
            refine zw_3 zr_201_7 rfl ?_
            refine zw_41_3 zr_201_8 ?_ ?_
            · intro h15
              refine zw_5 zr_201_21 rfl ?_
              refine zw_R zr_201_22 (by decide) zm_201 (v := (1, x14)) rfl ?_
              rw [← hQ]; exact ⟨_, rfl, by omega, by omega, rfl⟩
            · intro h16
              refine zw_5 zr_201_11 rfl ?_
              refine zw_5 zr_201_12 rfl ?_
              refine zw_29p (A := 59049) (B := 9) zr_201_13 (by omega) (by omega) (by omega) (by omega) (by decide) ?_
              intro x17 hx17a hx17b
              refine zw_13 (L' := [(1, a0), (9, 0), (0, a1), (1, x17), (9, 0), (0, (((((0 + 1) + 1) + 1) + 1) + 1))]) zr_201_14 (Nat.le_of_ble_eq_true rfl) rfl ?_
              refine zw_15 (c := 1) (L' := [(1, a0), (9, 0), (0, a1), (1, x17), (9, 0), (0, ((((((0 + 1) + 1) + 1) + 1) + 1) + 1))]) zr_201_15 rfl (by decide) (by omega) rfl ?_
              refine zw_42 zr_201_18 ?_
              refine zw_4 zr_201_5 rfl ?_
              refine zw_3 zr_201_7 rfl ?_
              refine zw_41_3 zr_201_8 ?_ ?_
              · intro h18
                refine zw_5 zr_201_21 rfl ?_
                refine zw_R zr_201_22 (by decide) zm_201 (v := (1, x17)) rfl ?_
                rw [← hQ]; exact ⟨_, rfl, by omega, by omega, rfl⟩
              · intro h19
                refine zw_5 zr_201_11 rfl ?_
                refine zw_5 zr_201_12 rfl ?_
                refine zw_29p (A := 531441) (B := 9) zr_201_13 (by omega) (by omega) (by omega) (by omega) (by decide) ?_
                intro x20 hx20a hx20b
                refine zw_13 (L' := [(1, a0), (9, 0), (0, a1), (1, x20), (9, 0), (0, ((((((0 + 1) + 1) + 1) + 1) + 1) + 1))]) zr_201_14 (Nat.le_of_ble_eq_true rfl) rfl ?_
                refine zw_15 (c := 1) (L' := [(1, a0), (9, 0), (0, a1), (1, x20), (9, 0), (0, (((((((0 + 1) + 1) + 1) + 1) + 1) + 1) + 1))]) zr_201_15 rfl (by decide) (by omega) rfl ?_
                refine zw_42 zr_201_18 ?_
                refine zw_4 zr_201_5 rfl ?_
                refine zw_3 zr_201_7 rfl ?_
                refine zw_41_3 zr_201_8 ?_ ?_
                · intro h21
                  refine zw_5 zr_201_21 rfl ?_
                  refine zw_R zr_201_22 (by decide) zm_201 (v := (1, x20)) rfl ?_
                  rw [← hQ]; exact ⟨_, rfl, by omega, by omega, rfl⟩
                · intro h22
                  refine zw_5 zr_201_11 rfl ?_
                  refine zw_5 zr_201_12 rfl ?_
                  refine zw_29p (A := 4782969) (B := 9) zr_201_13 (by omega) (by omega) (by omega) (by omega) (by decide) ?_
                  intro x23 hx23a hx23b
                  refine zw_13 (L' := [(1, a0), (9, 0), (0, a1), (1, x23), (9, 0), (0, (((((((0 + 1) + 1) + 1) + 1) + 1) + 1) + 1))]) zr_201_14 (Nat.le_of_ble_eq_true rfl) rfl ?_
                  refine zw_15 (c := 1) (L' := [(1, a0), (9, 0), (0, a1), (1, x23), (9, 0), (0, ((((((((0 + 1) + 1) + 1) + 1) + 1) + 1) + 1) + 1))]) zr_201_15 rfl (by decide) (by omega) rfl ?_
                  refine zw_42 zr_201_18 ?_
                  refine zw_4 zr_201_5 rfl ?_
                  refine zw_3 zr_201_7 rfl ?_
                  refine zw_41_3 zr_201_8 ?_ ?_
                  · intro h24
                    refine zw_5 zr_201_21 rfl ?_
                    refine zw_R zr_201_22 (by decide) zm_201 (v := (1, x23)) rfl ?_
                    rw [← hQ]; exact ⟨_, rfl, by omega, by omega, rfl⟩
                  · intro h25
                    refine zw_5 zr_201_11 rfl ?_
                    refine zw_5 zr_201_12 rfl ?_
                    refine zw_29p (A := 43046721) (B := 9) zr_201_13 (by omega) (by omega) (by omega) (by omega) (by decide) ?_
                    intro x26 hx26a hx26b
                    refine zw_13 (L' := [(1, a0), (9, 0), (0, a1), (1, x26), (9, 0), (0, ((((((((0 + 1) + 1) + 1) + 1) + 1) + 1) + 1) + 1))]) zr_201_14 (Nat.le_of_ble_eq_true rfl) rfl ?_
                    refine zw_15 (c := 1) (L' := [(1, a0), (9, 0), (0, a1), (1, x26), (9, 0), (0, (((((((((0 + 1) + 1) + 1) + 1) + 1) + 1) + 1) + 1) + 1))]) zr_201_15 rfl (by decide) (by omega) rfl ?_
                    refine zw_42 zr_201_18 ?_
                    refine zw_4 zr_201_5 rfl ?_
                    refine zw_3 zr_201_7 rfl ?_
                    refine zw_41_3 zr_201_8 ?_ ?_
                    · intro h27
                      refine zw_5 zr_201_21 rfl ?_
                      refine zw_R zr_201_22 (by decide) zm_201 (v := (1, x26)) rfl ?_
                      rw [← hQ]; exact ⟨_, rfl, by omega, by omega, rfl⟩
                    · intro h28
                      refine zw_5 zr_201_11 rfl ?_
                      refine zw_5 zr_201_12 rfl ?_
                      refine zw_29p (A := 387420489) (B := 9) zr_201_13 (by omega) (by omega) (by omega) (by omega) (by decide) ?_
                      intro x29 hx29a hx29b
                      refine zw_13 (L' := [(1, a0), (9, 0), (0, a1), (1, x29), (9, 0), (0, (((((((((0 + 1) + 1) + 1) + 1) + 1) + 1) + 1) + 1) + 1))]) zr_201_14 (Nat.le_of_ble_eq_true rfl) rfl ?_
                      refine zw_15 (c := 1) (L' := [(1, a0), (9, 0), (0, a1), (1, x29), (9, 0), (0, ((((((((((0 + 1) + 1) + 1) + 1) + 1) + 1) + 1) + 1) + 1) + 1))]) zr_201_15 rfl (by decide) (by omega) rfl ?_
                      refine zw_42 zr_201_18 ?_
                      refine zw_4 zr_201_5 rfl ?_
                      refine zw_3 zr_201_7 rfl ?_
                      refine zw_41_3 zr_201_8 ?_ ?_
                      · intro h30
                        refine zw_5 zr_201_21 rfl ?_
                        refine zw_R zr_201_22 (by decide) zm_201 (v := (1, x29)) rfl ?_
                        rw [← hQ]; exact ⟨_, rfl, by omega, by omega, rfl⟩
                      · intro h31
                        refine zw_5 zr_201_11 rfl ?_
                        refine zw_5 zr_201_12 rfl ?_
                        refine zw_29p (A := 3486784401) (B := 9) zr_201_13 (by omega) (by omega) (by omega) (by omega) (by decide) ?_
                        intro x32 hx32a hx32b
                        refine zw_13 (L' := [(1, a0), (9, 0), (0, a1), (1, x32), (9, 0), (0, ((((((((((0 + 1) + 1) + 1) + 1) + 1) + 1) + 1) + 1) + 1) + 1))]) zr_201_14 (Nat.le_of_ble_eq_true rfl) rfl ?_
                        refine zw_15 (c := 1) (L' := [(1, a0), (9, 0), (0, a1), (1, x32), (9, 0), (0, (((((((((((0 + 1) + 1) + 1) + 1) + 1) + 1) + 1) + 1) + 1) + 1) + 1))]) zr_201_15 rfl (by decide) (by omega) rfl ?_
                        refine zw_42 zr_201_18 ?_
                        refine zw_4 zr_201_5 rfl ?_
                        refine zw_3 zr_201_7 rfl ?_
                        refine zw_41_3 zr_201_8 ?_ ?_
                        · intro h33
                          refine zw_5 zr_201_21 rfl ?_
                          refine zw_R zr_201_22 (by decide) zm_201 (v := (1, x32)) rfl ?_
                          rw [← hQ]; exact ⟨_, rfl, by omega, by omega, rfl⟩
                        · intro h34
                          refine zw_5 zr_201_11 rfl ?_
                          refine zw_5 zr_201_12 rfl ?_
                          refine zw_29p (A := 31381059609) (B := 9) zr_201_13 (by omega) (by omega) (by omega) (by omega) (by decide) ?_
                          intro x35 hx35a hx35b
                          refine zw_13 (L' := [(1, a0), (9, 0), (0, a1), (1, x35), (9, 0), (0, (((((((((((0 + 1) + 1) + 1) + 1) + 1) + 1) + 1) + 1) + 1) + 1) + 1))]) zr_201_14 (Nat.le_of_ble_eq_true rfl) rfl ?_
                          refine zw_15 (c := 1) (L' := [(1, a0), (9, 0), (0, a1), (1, x35), (9, 0), (0, ((((((((((((0 + 1) + 1) + 1) + 1) + 1) + 1) + 1) + 1) + 1) + 1) + 1) + 1))]) zr_201_15 rfl (by decide) (by omega) rfl ?_
                          refine zw_42 zr_201_18 ?_
                          refine zw_4 zr_201_5 rfl ?_
                          refine zw_3 zr_201_7 rfl ?_
                          refine zw_41_3 zr_201_8 ?_ ?_
                          · intro h36
                            refine zw_5 zr_201_21 rfl ?_
                            refine zw_R zr_201_22 (by decide) zm_201 (v := (1, x35)) rfl ?_
                            rw [← hQ]; exact ⟨_, rfl, by omega, by omega, rfl⟩
                          · intro h37
                            refine zw_5 zr_201_11 rfl ?_
                            refine zw_5 zr_201_12 rfl ?_
                            refine zw_29p (A := 282429536481) (B := 9) zr_201_13 (by omega) (by omega) (by omega) (by omega) (by decide) ?_
                            intro x38 hx38a hx38b
                            refine zw_13 (L' := [(1, a0), (9, 0), (0, a1), (1, x38), (9, 0), (0, ((((((((((((0 + 1) + 1) + 1) + 1) + 1) + 1) + 1) + 1) + 1) + 1) + 1) + 1))]) zr_201_14 (Nat.le_of_ble_eq_true rfl) rfl ?_
                            refine zw_15 (c := 1) (L' := [(1, a0), (9, 0), (0, a1), (1, x38), (9, 0), (0, (((((((((((((0 + 1) + 1) + 1) + 1) + 1) + 1) + 1) + 1) + 1) + 1) + 1) + 1) + 1))]) zr_201_15 rfl (by decide) (by omega) rfl ?_
                            refine zw_42 zr_201_18 ?_
                            refine zw_4 zr_201_5 rfl ?_
                            refine zw_3 zr_201_7 rfl ?_
                            refine zw_41_3 zr_201_8 ?_ ?_
                            · intro h39
                              refine zw_5 zr_201_21 rfl ?_
                              refine zw_R zr_201_22 (by decide) zm_201 (v := (1, x38)) rfl ?_
                              rw [← hQ]; exact ⟨_, rfl, by omega, by omega, rfl⟩
                            · intro h40
                              refine zw_5 zr_201_11 rfl ?_
                              refine zw_5 zr_201_12 rfl ?_
                              refine zw_29p (A := 2541865828329) (B := 9) zr_201_13 (by omega) (by omega) (by omega) (by omega) (by decide) ?_
                              intro x41 hx41a hx41b
                              refine zw_13 (L' := [(1, a0), (9, 0), (0, a1), (1, x41), (9, 0), (0, (((((((((((((0 + 1) + 1) + 1) + 1) + 1) + 1) + 1) + 1) + 1) + 1) + 1) + 1) + 1))]) zr_201_14 (Nat.le_of_ble_eq_true rfl) rfl ?_
                              refine zw_15 (c := 1) (L' := [(1, a0), (9, 0), (0, a1), (1, x41), (9, 0), (0, ((((((((((((((0 + 1) + 1) + 1) + 1) + 1) + 1) + 1) + 1) + 1) + 1) + 1) + 1) + 1) + 1))]) zr_201_15 rfl (by decide) (by omega) rfl ?_
                              refine zw_42 zr_201_18 ?_
                              refine zw_4 zr_201_5 rfl ?_
                              refine zw_3 zr_201_7 rfl ?_
                              refine zw_41_3 zr_201_8 ?_ ?_
                              · intro h42
                                refine zw_5 zr_201_21 rfl ?_
                                refine zw_R zr_201_22 (by decide) zm_201 (v := (1, x41)) rfl ?_
                                rw [← hQ]; exact ⟨_, rfl, by omega, by omega, rfl⟩
                              · intro h43
                                refine zw_5 zr_201_11 rfl ?_
                                refine zw_5 zr_201_12 rfl ?_
                                refine zw_29p (A := 22876792454961) (B := 9) zr_201_13 (by omega) (by omega) (by omega) (by omega) (by decide) ?_
                                intro x44 hx44a hx44b
                                refine zw_13 (L' := [(1, a0), (9, 0), (0, a1), (1, x44), (9, 0), (0, ((((((((((((((0 + 1) + 1) + 1) + 1) + 1) + 1) + 1) + 1) + 1) + 1) + 1) + 1) + 1) + 1))]) zr_201_14 (Nat.le_of_ble_eq_true rfl) rfl ?_
                                refine zw_15 (c := 1) (L' := [(1, a0), (9, 0), (0, a1), (1, x44), (9, 0), (0, (((((((((((((((0 + 1) + 1) + 1) + 1) + 1) + 1) + 1) + 1) + 1) + 1) + 1) + 1) + 1) + 1) + 1))]) zr_201_15 rfl (by decide) (by omega) rfl ?_
                                refine zw_42 zr_201_18 ?_
                                refine zw_4 zr_201_5 rfl ?_
                                refine zw_3 zr_201_7 rfl ?_
                                refine zw_41_3 zr_201_8 ?_ ?_
                                · intro h45
                                  refine zw_5 zr_201_21 rfl ?_
                                  refine zw_R zr_201_22 (by decide) zm_201 (v := (1, x44)) rfl ?_
                                  rw [← hQ]; exact ⟨_, rfl, by omega, by omega, rfl⟩
                                · intro h46; omega

abbrev W_202 : List (Nat × Nat) := [(69, 3), (69, 4)]
set_option maxHeartbeats 8000000 in
theorem th_202 {E : zE} {d : Nat} {m0 : zM} {a0 : Int} {a1 : Int} {a2 : Int} {a3 : Int} {g0 : Int} {F70 : Nat → Int} (hd : 4 ≤ d) (hI0 : zInv m0) (hg0 : m0 70 822 = g0) (hG70 : m0 70 = F70) (ha0 : (-2147483648) ≤ a0 ∧ a0 ≤ 2147483647) (ha1 : (-2147483648) ≤ a1 ∧ a1 ≤ 2147483647) (ha2 : (-2147483648) ≤ a2 ∧ a2 ≤ 2147483647) (ha3 : (-2147483648) ≤ a3 ∧ a3 ≤ 2147483647) : zC E d 202 [(2, 69), (0, a0), (0, a1), (0, a2), (0, a3)] m0 (fun v m' => ∃ r : Int, v = (0, r) ∧ (-3) ≤ r ∧ r ≤ 1 ∧ zInv m' ∧ zFr W_202 m0 m' ∧ ((r = -2 ∧ (a0 < 0 ∨ g0 ≤ a0 ∨ a1 < 0 ∨ g0 ≤ a1 ∨ a0 = a1 ∨ a2 < 1 ∨ a3 ≤ a2 ∨ 9 < a3)) ∨ (0 ≤ a0 ∧ a0 < g0 ∧ 0 ≤ a1 ∧ a1 < g0 ∧ a0 ≠ a1 ∧ 1 ≤ a2 ∧ a2 < a3 ∧ a3 ≤ 9 ∧ ((r = 1 ∧ 1 ≤ mtr F70 a0 a1 (F70 823).toNat ∧ mtr F70 a0 a1 (F70 823).toNat ≤ 15) ∨ (r = -3 ∧ (mtr F70 a0 a1 (F70 823).toNat < 1 ∨ 15 < mtr F70 a0 a1 (F70 823).toNat)))))) := by
  have hF0 : zFr W_202 m0 m0 := zFr.rfl
  have bg0 : 0 ≤ m0 70 822 ∧ m0 70 822 ≤ 10 := ib_70_players hI0 (by omega)
  rw [hg0] at bg0
  generalize hQ : (fun (v : zV) (m' : zM) => ∃ r : Int, v = (0, r) ∧ (-3) ≤ r ∧ r ≤ 1 ∧ zInv m' ∧ zFr W_202 m0 m' ∧ ((r = -2 ∧ (a0 < 0 ∨ g0 ≤ a0 ∨ a1 < 0 ∨ g0 ≤ a1 ∨ a0 = a1 ∨ a2 < 1 ∨ a3 ≤ a2 ∨ 9 < a3)) ∨ (0 ≤ a0 ∧ a0 < g0 ∧ 0 ≤ a1 ∧ a1 < g0 ∧ a0 ≠ a1 ∧ 1 ≤ a2 ∧ a2 < a3 ∧ a3 ≤ 9 ∧ ((r = 1 ∧ 1 ≤ mtr F70 a0 a1 (F70 823).toNat ∧ mtr F70 a0 a1 (F70 823).toNat ≤ 15) ∨ (r = -3 ∧ (mtr F70 a0 a1 (F70 823).toNat < 1 ∨ 15 < mtr F70 a0 a1 (F70 823).toNat)))))) = Q
  show zW E d 202 0 [(2, 69), (0, a0), (0, a1), (0, a2), (0, a3), (9, 0), (9, 0), (9, 0), (9, 0), (9, 0), (9, 0), (9, 0)] [] m0 Q
  refine zw_7 zr_202_0 rfl ?_
  refine zw_3 zr_202_1 rfl ?_
  refine zw_C zr_202_2 (Or.inl rfl) zm_143 rfl rfl ⟨Nat.le_of_ble_eq_true rfl, Nat.le_of_ble_eq_true rfl, Nat.le_of_ble_eq_true rfl, rfl, by decide⟩ (by omega) (P := (fun v m' => zW E (d) 202 5 [(2, 69), (0, a0), (0, a1), (0, a2), (0, a3), (9, 0), (9, 0), (9, 0), (9, 0), (9, 0), (9, 0), (9, 0)] (if v.1 = 9 then [] else v :: []) m' Q)) ?_ (fun _ _ h => h)
  generalize hQ1 : (fun v m' => zW E (d) 202 5 [(2, 69), (0, a0), (0, a1), (0, a2), (0, a3), (9, 0), (9, 0), (9, 0), (9, 0), (9, 0), (9, 0), (9, 0)] (if v.1 = 9 then [] else v :: []) m' Q) = Q1
  show zW E (d - 1) 143 0 [(2, 69), (0, a0)] [] m0 Q1
  refine zw_3 zr_143_0 rfl ?_
  refine zw_36 zr_143_1 ?_
  refine zw_push zr_143_2 ?_
  refine zw_7 zr_143_3 rfl ?_
  refine zw_C zr_143_4 (Or.inl rfl) zm_141 rfl rfl ⟨Nat.le_of_ble_eq_true rfl, Nat.le_of_ble_eq_true rfl, Nat.le_of_ble_eq_true rfl, rfl, by decide⟩ (by omega) (P := (fun v m' => zW E (d - 1) 143 7 [(2, 69), (0, a0)] (if v.1 = 9 then [(1, 0), (1, a0)] else v :: [(1, 0), (1, a0)]) m' Q1)) ?_ (fun _ _ h => h)
  generalize hQ2 : (fun v m' => zW E (d - 1) 143 7 [(2, 69), (0, a0)] (if v.1 = 9 then [(1, 0), (1, a0)] else v :: [(1, 0), (1, a0)]) m' Q1) = Q2
  show zW E (d - 1 - 1) 141 0 [(2, 69)] [] m0 Q2
  refine zw_7 zr_141_0 rfl ?_
  refine zw_46r (s := 70) zr_141_1 rfl rfl rfl rfl ?_
  refine zw_push zr_141_4 ?_
  refine zw_48k (c := 70) (len := 826) zr_141_7 rfl rfl (by omega) (by omega) (show (822 : Int).toNat = 822 by omega) hg0 ?_
  refine zw_R zr_141_8 (by decide) zm_141 (v := (0, g0)) rfl ?_
  rw [← hQ2]
  show zW E (d - 1) 143 7 [(2, 69), (0, a0)] [(0, g0), (1, 0), (1, a0)] m0 Q1
  refine zw_push zr_143_7 ?_
  refine zw_17 zr_143_8 (by omega) ?_
  refine zw_36 zr_143_9 ?_
  refine zw_C zr_143_10 (Or.inr rfl) zm_140 rfl rfl ⟨Nat.le_of_ble_eq_true rfl, Nat.le_of_ble_eq_true rfl, Nat.le_of_ble_eq_true rfl, rfl, by decide⟩ (by omega) (P := (fun v m' => zW E (d - 1) 143 13 [(2, 69), (0, a0)] (if v.1 = 9 then [] else v :: []) m' Q1)) ?_ (fun _ _ h => h)
  generalize hQ2 : (fun v m' => zW E (d - 1) 143 13 [(2, 69), (0, a0)] (if v.1 = 9 then [] else v :: []) m' Q1) = Q2
  show zW E (d - 1 - 1) 140 0 [(1, a0), (9, 0), (1, 0), (9, 0), (1, (g0 - 1)), (9, 0)] [] m0 Q2
  refine zw_5 zr_140_0 rfl ?_
  refine zw_5 zr_140_1 rfl ?_
  refine zw_39_0 zr_140_2 zr_140_3 ?_ ?_
  · intro h1
    refine zw_push zr_140_17 ?_
    refine zw_R zr_140_18 (by decide) zm_140 (v := (0, 0)) (zRetB (by omega)) ?_
    rw [← hQ2]
    show zW E (d - 1) 143 13 [(2, 69), (0, a0)] [(0, 0)] m0 Q1
    refine zw_R zr_143_13 (by decide) zm_143 (v := (0, 0)) (zRetB (by omega)) ?_
    rw [← hQ1]
    show zW E (d) 202 5 [(2, 69), (0, a0), (0, a1), (0, a2), (0, a3), (9, 0), (9, 0), (9, 0), (9, 0), (9, 0), (9, 0), (9, 0)] [(0, 0)] m0 Q
    refine zw_40_1 zr_202_5 ?_ ?_
    · intro h2
      refine zw_push zr_202_50 ?_
      refine zw_R zr_202_52 (by decide) zm_202 (v := (0, (-2))) rfl ?_
      rw [← hQ]; exact ⟨_, rfl, by omega, by omega, hI0, hF0, by omega⟩
    · intro h4; omega
  · intro h5
    refine zw_5 zr_140_6 rfl ?_
    refine zw_6 zr_140_7 rfl ?_
    refine zw_39_2 zr_140_9 zr_140_10 ?_ ?_
    · intro h6
      refine zw_push zr_140_17 ?_
      refine zw_R zr_140_18 (by decide) zm_140 (v := (0, 0)) (zRetB (by omega)) ?_
      rw [← hQ2]
      show zW E (d - 1) 143 13 [(2, 69), (0, a0)] [(0, 0)] m0 Q1
      refine zw_R zr_143_13 (by decide) zm_143 (v := (0, 0)) (zRetB (by omega)) ?_
      rw [← hQ1]
      show zW E (d) 202 5 [(2, 69), (0, a0), (0, a1), (0, a2), (0, a3), (9, 0), (9, 0), (9, 0), (9, 0), (9, 0), (9, 0), (9, 0)] [(0, 0)] m0 Q
      refine zw_40_1 zr_202_5 ?_ ?_
      · intro h7
        refine zw_push zr_202_50 ?_
        refine zw_R zr_202_52 (by decide) zm_202 (v := (0, (-2))) rfl ?_
        rw [← hQ]; exact ⟨_, rfl, by omega, by omega, hI0, hF0, by omega⟩
      · intro h9; omega
    · intro h10
      refine zw_push zr_140_13 ?_
      refine zw_42 zr_140_14 ?_
      refine zw_R zr_140_18 (by decide) zm_140 (v := (0, 1)) (zRetB (by omega)) ?_
      rw [← hQ2]
      show zW E (d - 1) 143 13 [(2, 69), (0, a0)] [(0, 1)] m0 Q1
      refine zw_R zr_143_13 (by decide) zm_143 (v := (0, 1)) (zRetB (by omega)) ?_
      rw [← hQ1]
      show zW E (d) 202 5 [(2, 69), (0, a0), (0, a1), (0, a2), (0, a3), (9, 0), (9, 0), (9, 0), (9, 0), (9, 0), (9, 0), (9, 0)] [(0, 1)] m0 Q
      refine zw_40_1 zr_202_5 ?_ ?_
      · intro h11; omega
      · intro h12
        refine zw_7 zr_202_8 rfl ?_
        refine zw_3 zr_202_9 rfl ?_
        refine zw_C zr_202_10 (Or.inl rfl) zm_143 rfl rfl ⟨Nat.le_of_ble_eq_true rfl, Nat.le_of_ble_eq_true rfl, Nat.le_of_ble_eq_true rfl, rfl, by decide⟩ (by omega) (P := (fun v m' => zW E (d) 202 13 [(2, 69), (0, a0), (0, a1), (0, a2), (0, a3), (9, 0), (9, 0), (9, 0), (9, 0), (9, 0), (9, 0), (9, 0)] (if v.1 = 9 then [] else v :: []) m' Q)) ?_ (fun _ _ h => h)
        generalize hQ1 : (fun v m' => zW E (d) 202 13 [(2, 69), (0, a0), (0, a1), (0, a2), (0, a3), (9, 0), (9, 0), (9, 0), (9, 0), (9, 0), (9, 0), (9, 0)] (if v.1 = 9 then [] else v :: []) m' Q) = Q1
        show zW E (d - 1) 143 0 [(2, 69), (0, a1)] [] m0 Q1
        refine zw_3 zr_143_0 rfl ?_
        refine zw_36 zr_143_1 ?_
        refine zw_push zr_143_2 ?_
        refine zw_7 zr_143_3 rfl ?_
        refine zw_C zr_143_4 (Or.inl rfl) zm_141 rfl rfl ⟨Nat.le_of_ble_eq_true rfl, Nat.le_of_ble_eq_true rfl, Nat.le_of_ble_eq_true rfl, rfl, by decide⟩ (by omega) (P := (fun v m' => zW E (d - 1) 143 7 [(2, 69), (0, a1)] (if v.1 = 9 then [(1, 0), (1, a1)] else v :: [(1, 0), (1, a1)]) m' Q1)) ?_ (fun _ _ h => h)
        generalize hQ2 : (fun v m' => zW E (d - 1) 143 7 [(2, 69), (0, a1)] (if v.1 = 9 then [(1, 0), (1, a1)] else v :: [(1, 0), (1, a1)]) m' Q1) = Q2
        show zW E (d - 1 - 1) 141 0 [(2, 69)] [] m0 Q2
        refine zw_7 zr_141_0 rfl ?_
        refine zw_46r (s := 70) zr_141_1 rfl rfl rfl rfl ?_
        refine zw_push zr_141_4 ?_
        refine zw_48k (c := 70) (len := 826) zr_141_7 rfl rfl (by omega) (by omega) (show (822 : Int).toNat = 822 by omega) hg0 ?_
        refine zw_R zr_141_8 (by decide) zm_141 (v := (0, g0)) rfl ?_
        rw [← hQ2]
        show zW E (d - 1) 143 7 [(2, 69), (0, a1)] [(0, g0), (1, 0), (1, a1)] m0 Q1
        refine zw_push zr_143_7 ?_
        refine zw_17 zr_143_8 (by omega) ?_
        refine zw_36 zr_143_9 ?_
        refine zw_C zr_143_10 (Or.inr rfl) zm_140 rfl rfl ⟨Nat.le_of_ble_eq_true rfl, Nat.le_of_ble_eq_true rfl, Nat.le_of_ble_eq_true rfl, rfl, by decide⟩ (by omega) (P := (fun v m' => zW E (d - 1) 143 13 [(2, 69), (0, a1)] (if v.1 = 9 then [] else v :: []) m' Q1)) ?_ (fun _ _ h => h)
        generalize hQ2 : (fun v m' => zW E (d - 1) 143 13 [(2, 69), (0, a1)] (if v.1 = 9 then [] else v :: []) m' Q1) = Q2
        show zW E (d - 1 - 1) 140 0 [(1, a1), (9, 0), (1, 0), (9, 0), (1, (g0 - 1)), (9, 0)] [] m0 Q2
        refine zw_5 zr_140_0 rfl ?_
        refine zw_5 zr_140_1 rfl ?_
        refine zw_39_0 zr_140_2 zr_140_3 ?_ ?_
        · intro h13
          refine zw_push zr_140_17 ?_
          refine zw_R zr_140_18 (by decide) zm_140 (v := (0, 0)) (zRetB (by omega)) ?_
          rw [← hQ2]
          show zW E (d - 1) 143 13 [(2, 69), (0, a1)] [(0, 0)] m0 Q1
          refine zw_R zr_143_13 (by decide) zm_143 (v := (0, 0)) (zRetB (by omega)) ?_
          rw [← hQ1]
          show zW E (d) 202 13 [(2, 69), (0, a0), (0, a1), (0, a2), (0, a3), (9, 0), (9, 0), (9, 0), (9, 0), (9, 0), (9, 0), (9, 0)] [(0, 0)] m0 Q
          refine zw_40_1 zr_202_13 ?_ ?_
          · intro h14
            refine zw_push zr_202_50 ?_
            refine zw_R zr_202_52 (by decide) zm_202 (v := (0, (-2))) rfl ?_
            rw [← hQ]; exact ⟨_, rfl, by omega, by omega, hI0, hF0, by omega⟩
          · intro h16; omega
        · intro h17
          refine zw_5 zr_140_6 rfl ?_
          refine zw_6 zr_140_7 rfl ?_
          refine zw_39_2 zr_140_9 zr_140_10 ?_ ?_
          · intro h18
            refine zw_push zr_140_17 ?_
            refine zw_R zr_140_18 (by decide) zm_140 (v := (0, 0)) (zRetB (by omega)) ?_
            rw [← hQ2]
            show zW E (d - 1) 143 13 [(2, 69), (0, a1)] [(0, 0)] m0 Q1
            refine zw_R zr_143_13 (by decide) zm_143 (v := (0, 0)) (zRetB (by omega)) ?_
            rw [← hQ1]
            show zW E (d) 202 13 [(2, 69), (0, a0), (0, a1), (0, a2), (0, a3), (9, 0), (9, 0), (9, 0), (9, 0), (9, 0), (9, 0), (9, 0)] [(0, 0)] m0 Q
            refine zw_40_1 zr_202_13 ?_ ?_
            · intro h19
              refine zw_push zr_202_50 ?_
              refine zw_R zr_202_52 (by decide) zm_202 (v := (0, (-2))) rfl ?_
              rw [← hQ]; exact ⟨_, rfl, by omega, by omega, hI0, hF0, by omega⟩
            · intro h21; omega
          · intro h22
            refine zw_push zr_140_13 ?_
            refine zw_42 zr_140_14 ?_
            refine zw_R zr_140_18 (by decide) zm_140 (v := (0, 1)) (zRetB (by omega)) ?_
            rw [← hQ2]
            show zW E (d - 1) 143 13 [(2, 69), (0, a1)] [(0, 1)] m0 Q1
            refine zw_R zr_143_13 (by decide) zm_143 (v := (0, 1)) (zRetB (by omega)) ?_
            rw [← hQ1]
            show zW E (d) 202 13 [(2, 69), (0, a0), (0, a1), (0, a2), (0, a3), (9, 0), (9, 0), (9, 0), (9, 0), (9, 0), (9, 0), (9, 0)] [(0, 1)] m0 Q
            refine zw_40_1 zr_202_13 ?_ ?_
            · intro h23; omega
            · intro h24
              refine zw_3 zr_202_16 rfl ?_
              refine zw_3 zr_202_17 rfl ?_
              refine zw_41_1 zr_202_18 ?_ ?_
              · intro h25
                refine zw_push zr_202_50 ?_
                refine zw_R zr_202_52 (by decide) zm_202 (v := (0, (-2))) rfl ?_
                rw [← hQ]; exact ⟨_, rfl, by omega, by omega, hI0, hF0, by omega⟩
              · intro h27
                refine zw_4 zr_202_21 rfl ?_
                refine zw_36 zr_202_23 ?_
                refine zw_push zr_202_24 ?_
                refine zw_push zr_202_27 ?_
                refine zw_C zr_202_30 (Or.inr rfl) zm_140 rfl rfl ⟨Nat.le_of_ble_eq_true rfl, Nat.le_of_ble_eq_true rfl, Nat.le_of_ble_eq_true rfl, rfl, by decide⟩ (by omega) (P := (fun v m' => zW E (d) 202 33 [(2, 69), (0, a0), (0, a1), (0, a2), (0, a3), (9, 0), (9, 0), (9, 0), (9, 0), (9, 0), (9, 0), (9, 0)] (if v.1 = 9 then [] else v :: []) m' Q)) ?_ (fun _ _ h => h)
                generalize hQ1 : (fun v m' => zW E (d) 202 33 [(2, 69), (0, a0), (0, a1), (0, a2), (0, a3), (9, 0), (9, 0), (9, 0), (9, 0), (9, 0), (9, 0), (9, 0)] (if v.1 = 9 then [] else v :: []) m' Q) = Q1
                show zW E (d - 1) 140 0 [(1, a3), (9, 0), (1, 2), (9, 0), (1, 9), (9, 0)] [] m0 Q1
                refine zw_5 zr_140_0 rfl ?_
                refine zw_5 zr_140_1 rfl ?_
                refine zw_39_0 zr_140_2 zr_140_3 ?_ ?_
                · intro h28
                  refine zw_push zr_140_17 ?_
                  refine zw_R zr_140_18 (by decide) zm_140 (v := (0, 0)) (zRetB (by omega)) ?_
                  rw [← hQ1]
                  show zW E (d) 202 33 [(2, 69), (0, a0), (0, a1), (0, a2), (0, a3), (9, 0), (9, 0), (9, 0), (9, 0), (9, 0), (9, 0), (9, 0)] [(0, 0)] m0 Q
                  refine zw_40_1 zr_202_33 ?_ ?_
                  · intro h29
                    refine zw_push zr_202_50 ?_
                    refine zw_R zr_202_52 (by decide) zm_202 (v := (0, (-2))) rfl ?_
                    rw [← hQ]; exact ⟨_, rfl, by omega, by omega, hI0, hF0, by omega⟩
                  · intro h31; omega
                · intro h32
                  refine zw_5 zr_140_6 rfl ?_
                  refine zw_6 zr_140_7 rfl ?_
                  refine zw_39_2 zr_140_9 zr_140_10 ?_ ?_
                  · intro h33
                    refine zw_push zr_140_17 ?_
                    refine zw_R zr_140_18 (by decide) zm_140 (v := (0, 0)) (zRetB (by omega)) ?_
                    rw [← hQ1]
                    show zW E (d) 202 33 [(2, 69), (0, a0), (0, a1), (0, a2), (0, a3), (9, 0), (9, 0), (9, 0), (9, 0), (9, 0), (9, 0), (9, 0)] [(0, 0)] m0 Q
                    refine zw_40_1 zr_202_33 ?_ ?_
                    · intro h34
                      refine zw_push zr_202_50 ?_
                      refine zw_R zr_202_52 (by decide) zm_202 (v := (0, (-2))) rfl ?_
                      rw [← hQ]; exact ⟨_, rfl, by omega, by omega, hI0, hF0, by omega⟩
                    · intro h36; omega
                  · intro h37
                    refine zw_push zr_140_13 ?_
                    refine zw_42 zr_140_14 ?_
                    refine zw_R zr_140_18 (by decide) zm_140 (v := (0, 1)) (zRetB (by omega)) ?_
                    rw [← hQ1]
                    show zW E (d) 202 33 [(2, 69), (0, a0), (0, a1), (0, a2), (0, a3), (9, 0), (9, 0), (9, 0), (9, 0), (9, 0), (9, 0), (9, 0)] [(0, 1)] m0 Q
                    refine zw_40_1 zr_202_33 ?_ ?_
                    · intro h38; omega
                    · intro h39
                      refine zw_3 zr_202_36 rfl ?_
                      refine zw_36 zr_202_37 ?_
                      refine zw_push zr_202_38 ?_
                      refine zw_4 zr_202_39 rfl ?_
                      refine zw_push zr_202_41 ?_
                      refine zw_17 zr_202_42 (by omega) ?_
                      refine zw_36 zr_202_43 ?_
                      refine zw_C zr_202_44 (Or.inr rfl) zm_140 rfl rfl ⟨Nat.le_of_ble_eq_true rfl, Nat.le_of_ble_eq_true rfl, Nat.le_of_ble_eq_true rfl, rfl, by decide⟩ (by omega) (P := (fun v m' => zW E (d) 202 47 [(2, 69), (0, a0), (0, a1), (0, a2), (0, a3), (9, 0), (9, 0), (9, 0), (9, 0), (9, 0), (9, 0), (9, 0)] (if v.1 = 9 then [] else v :: []) m' Q)) ?_ (fun _ _ h => h)
                      generalize hQ1 : (fun v m' => zW E (d) 202 47 [(2, 69), (0, a0), (0, a1), (0, a2), (0, a3), (9, 0), (9, 0), (9, 0), (9, 0), (9, 0), (9, 0), (9, 0)] (if v.1 = 9 then [] else v :: []) m' Q) = Q1
                      show zW E (d - 1) 140 0 [(1, a2), (9, 0), (1, 1), (9, 0), (1, (a3 - 1)), (9, 0)] [] m0 Q1
                      refine zw_5 zr_140_0 rfl ?_
                      refine zw_5 zr_140_1 rfl ?_
                      refine zw_39_0 zr_140_2 zr_140_3 ?_ ?_
                      · intro h40
                        refine zw_push zr_140_17 ?_
                        refine zw_R zr_140_18 (by decide) zm_140 (v := (0, 0)) (zRetB (by omega)) ?_
                        rw [← hQ1]
                        show zW E (d) 202 47 [(2, 69), (0, a0), (0, a1), (0, a2), (0, a3), (9, 0), (9, 0), (9, 0), (9, 0), (9, 0), (9, 0), (9, 0)] [(0, 0)] m0 Q
                        refine zw_40_4 zr_202_47 ?_ ?_
                        · intro h41; omega
                        · intro h42
                          refine zw_push zr_202_50 ?_
                          refine zw_R zr_202_52 (by decide) zm_202 (v := (0, (-2))) rfl ?_
                          rw [← hQ]; exact ⟨_, rfl, by omega, by omega, hI0, hF0, by omega⟩
                      · intro h44
                        refine zw_5 zr_140_6 rfl ?_
                        refine zw_6 zr_140_7 rfl ?_
                        refine zw_39_2 zr_140_9 zr_140_10 ?_ ?_
                        · intro h45
                          refine zw_push zr_140_17 ?_
                          refine zw_R zr_140_18 (by decide) zm_140 (v := (0, 0)) (zRetB (by omega)) ?_
                          rw [← hQ1]
                          show zW E (d) 202 47 [(2, 69), (0, a0), (0, a1), (0, a2), (0, a3), (9, 0), (9, 0), (9, 0), (9, 0), (9, 0), (9, 0), (9, 0)] [(0, 0)] m0 Q
                          refine zw_40_4 zr_202_47 ?_ ?_
                          · intro h46; omega
                          · intro h47
                            refine zw_push zr_202_50 ?_
                            refine zw_R zr_202_52 (by decide) zm_202 (v := (0, (-2))) rfl ?_
                            rw [← hQ]; exact ⟨_, rfl, by omega, by omega, hI0, hF0, by omega⟩
                        · intro h49
                          refine zw_push zr_140_13 ?_
                          refine zw_42 zr_140_14 ?_
                          refine zw_R zr_140_18 (by decide) zm_140 (v := (0, 1)) (zRetB (by omega)) ?_
                          rw [← hQ1]
                          show zW E (d) 202 47 [(2, 69), (0, a0), (0, a1), (0, a2), (0, a3), (9, 0), (9, 0), (9, 0), (9, 0), (9, 0), (9, 0), (9, 0)] [(0, 1)] m0 Q
                          refine zw_40_4 zr_202_47 ?_ ?_
                          · intro h50
                            refine zw_7 zr_202_53 rfl ?_
                            refine zw_3 zr_202_54 rfl ?_
                            refine zw_3 zr_202_55 rfl ?_
                            refine zw_push zr_202_56 ?_
                            refine zw_C zr_202_57 (Or.inl rfl) zm_200 rfl rfl ⟨Nat.le_of_ble_eq_true rfl, Nat.le_of_ble_eq_true rfl, Nat.le_of_ble_eq_true rfl, rfl, by decide⟩ (by omega) (th_200 (d := d - 1) (by omega) hI0 (a0 := a0) (a1 := a1) (a2 := 0)   (F70 := F70)  hG70 (by omega) (by omega) (by omega) ) ?_
                            rintro _ _ ⟨r51, rfl, hr51a, hr51b, rfl, po0_r51⟩
                            show zW E (d) 202 60 [(2, 69), (0, a0), (0, a1), (0, a2), (0, a3), (9, 0), (9, 0), (9, 0), (9, 0), (9, 0), (9, 0), (9, 0)] [(0, r51)] m0 Q
                            refine zw_10 (L' := [(2, 69), (0, a0), (0, a1), (0, a2), (0, a3), (0, r51), (9, 0), (9, 0), (9, 0), (9, 0), (9, 0), (9, 0)]) zr_202_60 (Nat.le_of_ble_eq_true rfl) rfl ?_
                            refine zw_7 zr_202_62 rfl ?_
                            refine zw_3 zr_202_63 rfl ?_
                            refine zw_3 zr_202_64 rfl ?_
                            refine zw_push zr_202_65 ?_
                            refine zw_C zr_202_66 (Or.inl rfl) zm_200 rfl rfl ⟨Nat.le_of_ble_eq_true rfl, Nat.le_of_ble_eq_true rfl, Nat.le_of_ble_eq_true rfl, rfl, by decide⟩ (by omega) (th_200 (d := d - 1) (by omega) hI0 (a0 := a0) (a1 := a1) (a2 := 1)   (F70 := F70)  hG70 (by omega) (by omega) (by omega) ) ?_
                            rintro _ _ ⟨r52, rfl, hr52a, hr52b, rfl, po0_r52⟩
                            show zW E (d) 202 69 [(2, 69), (0, a0), (0, a1), (0, a2), (0, a3), (0, r51), (9, 0), (9, 0), (9, 0), (9, 0), (9, 0), (9, 0)] [(0, r52)] m0 Q
                            refine zw_10 (L' := [(2, 69), (0, a0), (0, a1), (0, a2), (0, a3), (0, r51), (0, r52), (9, 0), (9, 0), (9, 0), (9, 0), (9, 0)]) zr_202_69 (Nat.le_of_ble_eq_true rfl) rfl ?_
                            refine zw_4 zr_202_71 rfl ?_
                            refine zw_36 zr_202_73 ?_
                            refine zw_push zr_202_74 ?_
                            refine zw_push zr_202_75 ?_
                            refine zw_C zr_202_78 (Or.inr rfl) zm_140 rfl rfl ⟨Nat.le_of_ble_eq_true rfl, Nat.le_of_ble_eq_true rfl, Nat.le_of_ble_eq_true rfl, rfl, by decide⟩ (by omega) (P := (fun v m' => zW E (d) 202 81 [(2, 69), (0, a0), (0, a1), (0, a2), (0, a3), (0, r51), (0, r52), (9, 0), (9, 0), (9, 0), (9, 0), (9, 0)] (if v.1 = 9 then [] else v :: []) m' Q)) ?_ (fun _ _ h => h)
                            generalize hQ1 : (fun v m' => zW E (d) 202 81 [(2, 69), (0, a0), (0, a1), (0, a2), (0, a3), (0, r51), (0, r52), (9, 0), (9, 0), (9, 0), (9, 0), (9, 0)] (if v.1 = 9 then [] else v :: []) m' Q) = Q1
                            show zW E (d - 1) 140 0 [(1, r51), (9, 0), (1, 1), (9, 0), (1, 15), (9, 0)] [] m0 Q1
                            refine zw_5 zr_140_0 rfl ?_
                            refine zw_5 zr_140_1 rfl ?_
                            refine zw_39_0 zr_140_2 zr_140_3 ?_ ?_
                            · intro h53
                              refine zw_push zr_140_17 ?_
                              refine zw_R zr_140_18 (by decide) zm_140 (v := (0, 0)) (zRetB (by omega)) ?_
                              rw [← hQ1]
                              show zW E (d) 202 81 [(2, 69), (0, a0), (0, a1), (0, a2), (0, a3), (0, r51), (0, r52), (9, 0), (9, 0), (9, 0), (9, 0), (9, 0)] [(0, 0)] m0 Q
                              refine zw_40_4 zr_202_81 ?_ ?_
                              · intro h54; omega
                              · intro h55
                                refine zw_push zr_202_84 ?_
                                refine zw_R zr_202_86 (by decide) zm_202 (v := (0, (-3))) rfl ?_
                                rw [← hQ]; exact ⟨_, rfl, by omega, by omega, hI0, hF0, by omega⟩
                            · intro h57
                              refine zw_5 zr_140_6 rfl ?_
                              refine zw_6 zr_140_7 rfl ?_
                              refine zw_39_2 zr_140_9 zr_140_10 ?_ ?_
                              · intro h58
                                refine zw_push zr_140_17 ?_
                                refine zw_R zr_140_18 (by decide) zm_140 (v := (0, 0)) (zRetB (by omega)) ?_
                                rw [← hQ1]
                                show zW E (d) 202 81 [(2, 69), (0, a0), (0, a1), (0, a2), (0, a3), (0, r51), (0, r52), (9, 0), (9, 0), (9, 0), (9, 0), (9, 0)] [(0, 0)] m0 Q
                                refine zw_40_4 zr_202_81 ?_ ?_
                                · intro h59; omega
                                · intro h60
                                  refine zw_push zr_202_84 ?_
                                  refine zw_R zr_202_86 (by decide) zm_202 (v := (0, (-3))) rfl ?_
                                  rw [← hQ]; exact ⟨_, rfl, by omega, by omega, hI0, hF0, by omega⟩
                              · intro h62
                                refine zw_push zr_140_13 ?_
                                refine zw_42 zr_140_14 ?_
                                refine zw_R zr_140_18 (by decide) zm_140 (v := (0, 1)) (zRetB (by omega)) ?_
                                rw [← hQ1]
                                show zW E (d) 202 81 [(2, 69), (0, a0), (0, a1), (0, a2), (0, a3), (0, r51), (0, r52), (9, 0), (9, 0), (9, 0), (9, 0), (9, 0)] [(0, 1)] m0 Q
                                refine zw_40_4 zr_202_81 ?_ ?_
                                · intro h63
                                  refine zw_push zr_202_87 ?_
                                  refine zw_14 (L' := [(2, 69), (0, a0), (0, a1), (0, a2), (0, a3), (0, r51), (0, r52), (1, 0), (9, 0), (9, 0), (9, 0), (9, 0)]) zr_202_88 (Nat.le_of_ble_eq_true rfl) rfl ?_
                                  refine zw_push zr_202_90 ?_
                                  refine zw_14 (L' := [(2, 69), (0, a0), (0, a1), (0, a2), (0, a3), (0, r51), (0, r52), (1, 0), (9, 0), (1, 1), (9, 0), (9, 0)]) zr_202_91 (Nat.le_of_ble_eq_true rfl) rfl ?_
                                  refine zw_push zr_202_93 ?_
                                  refine zw_10 (L' := [(2, 69), (0, a0), (0, a1), (0, a2), (0, a3), (0, r51), (0, r52), (1, 0), (9, 0), (1, 1), (9, 0), (0, 0)]) zr_202_94 (Nat.le_of_ble_eq_true rfl) rfl ?_
                                  have lp96_68 : ∀ (nlp96_68 : Nat) (i64 i65 i66 : Int) (m67 : zM), zInv m67 → zFr W_202 m0 m67 → m67 70 822 = g0 → m67 70 = F70 → (-9223372036854775808) ≤ i64 → i64 ≤ 9223372036854775807 → (-9223372036854775808) ≤ i65 → i65 ≤ 9223372036854775807 → 0 ≤ i66 → i66 ≤ 16 → (16 - i66).toNat < nlp96_68 → zW E (d) 202 96 [(2, 69), (0, a0), (0, a1), (0, a2), (0, a3), (0, r51), (0, r52), (1, i64), (9, 0), (1, i65), (9, 0), (0, i66)] [] m67 Q := by
                                    intro nlp96_68
                                    induction nlp96_68 with
                                    | zero =>
                                      intros
                                      exact absurd (by assumption : _ < 0) (Nat.not_lt_zero _)
                                    | succ nlp96_68 ihlp96_68 =>
                                      intro i64 i65 i66 m67 hIm67 hFm67 km67_70_822 fm67_70 li64 ui64 li65 ui65 li66 ui66 hmlp96_68
                                      refine zw_4 zr_202_96 rfl ?_
                                      refine zw_4 zr_202_98 rfl ?_
                                      refine zw_41_2 zr_202_100 ?_ ?_
                                      · intro h70
                                        refine zw_7 zr_202_166 rfl ?_
                                        refine zw_6 zr_202_167 rfl ?_
                                        refine zw_4 zr_202_169 rfl ?_
                                        refine zw_36 zr_202_171 ?_
                                        refine zw_4 zr_202_172 rfl ?_
                                        refine zw_C zr_202_174 (Or.inr rfl) zm_201 rfl rfl ⟨Nat.le_of_ble_eq_true rfl, Nat.le_of_ble_eq_true rfl, Nat.le_of_ble_eq_true rfl, rfl, by decide⟩ (by omega) (th_201 (d := d - 1) (by omega) hIm67 (a0 := a3) (a1 := r51)      (by omega) (by omega) ) ?_
                                        rintro _ _ ⟨r71, rfl, hr71a, hr71b, rfl⟩
                                        show zW E (d) 202 177 [(2, 69), (0, a0), (0, a1), (0, a2), (0, a3), (0, r51), (0, r52), (1, i64), (9, 0), (1, i65), (9, 0), (0, i66)] [(1, r71), (1, i64), (2, 69)] m67 Q
                                        refine zw_C zr_202_177 (Or.inl rfl) zm_173 rfl rfl ⟨Nat.le_of_ble_eq_true rfl, Nat.le_of_ble_eq_true rfl, Nat.le_of_ble_eq_true rfl, rfl, by decide⟩ (by omega) (th_173 (d := d - 1) (by omega) hIm67 (a0 := i64) (a1 := r71)      (by omega) (by omega) ) ?_
                                        rintro _ m72 ⟨rfl, hIm72, gm72⟩
                                        have hFm72 : zFr W_202 m0 m72 := hFm67.trans gm72 rfl
                                        have km72_70_822 : m72 70 822 = g0 := (gm72 70 822 rfl).trans km67_70_822
                                        have fm72_70 : m72 70 = F70 := (funext fun k => gm72 70 k rfl).trans fm67_70
                                        show zW E (d) 202 180 [(2, 69), (0, a0), (0, a1), (0, a2), (0, a3), (0, r51), (0, r52), (1, i64), (9, 0), (1, i65), (9, 0), (0, i66)] [] m72 Q
                                        refine zw_push zr_202_180 ?_
                                        refine zw_R zr_202_181 (by decide) zm_202 (v := (0, 1)) rfl ?_
                                        rw [← hQ]; exact ⟨_, rfl, by omega, by omega, hIm72, hFm72, by omega⟩
                                      · intro h74
                                        refine zw_6 zr_202_103 rfl ?_
                                        refine zw_4 zr_202_105 rfl ?_
                                        refine zw_4 zr_202_107 rfl ?_
                                        refine zw_41_0 zr_202_109 ?_ ?_
                                        · intro h75
                                          refine zw_push zr_202_139 ?_
                                          refine zw_27 zr_202_140 (by omega) ?_
                                          refine zw_14 (L' := [(2, 69), (0, a0), (0, a1), (0, a2), (0, a3), (0, r51), (0, r52), (1, (i64 + 0)), (9, 0), (1, i65), (9, 0), (0, i66)]) zr_202_141 (Nat.le_of_ble_eq_true rfl) rfl ?_
                                          refine zw_6 zr_202_143 rfl ?_
                                          refine zw_4 zr_202_145 rfl ?_
                                          refine zw_4 zr_202_147 rfl ?_
                                          refine zw_17 zr_202_149 (by omega) ?_
                                          refine zw_36 zr_202_150 ?_
                                          refine zw_29h zr_202_151 ?_
                                          intro x76 hx76a hx76b
                                          refine zw_4 zr_202_152 rfl ?_
                                          refine zw_push zr_202_154 ?_
                                          refine zw_16 zr_202_155 (by omega) ?_
                                          refine zw_36 zr_202_156 ?_
                                          refine zw_118h zr_202_157 (by omega) ?_
                                          intro x77 hx77a hx77b
                                          refine zw_14 (L' := [(2, 69), (0, a0), (0, a1), (0, a2), (0, a3), (0, r51), (0, r52), (1, (i64 + 0)), (9, 0), (1, x77), (9, 0), (0, i66)]) zr_202_158 (Nat.le_of_ble_eq_true rfl) rfl ?_
                                          refine zw_15 (c := 1) (L' := [(2, 69), (0, a0), (0, a1), (0, a2), (0, a3), (0, r51), (0, r52), (1, (i64 + 0)), (9, 0), (1, x77), (9, 0), (0, (i66 + 1))]) zr_202_160 rfl (by decide) (by omega) rfl ?_
                                          refine zw_42 zr_202_163 ?_
                                          exact zw_less (L := [(2, 69), (0, a0), (0, a1), (0, a2), (0, a3), (0, r51), (0, r52), (1, (i64 + 0)), (9, 0), (1, x77), (9, 0), (0, (i66 + 1))]) ⟨Or.inr rfl, Or.inr rfl, Or.inr rfl, Or.inr rfl, Or.inr rfl, Or.inr rfl, Or.inr rfl, Or.inr rfl, Or.inl rfl, Or.inr rfl, Or.inl rfl, Or.inr rfl, trivial⟩ (ihlp96_68 ((i64 + 0)) (x77) ((i66 + 1)) m67 hIm67 hFm67  km67_70_822 fm67_70 (by omega) (by omega) (by omega) (by omega) (by omega) (by omega)  (by omega))
                                        · intro h78
                                          refine zw_6 zr_202_112 rfl ?_
                                          refine zw_3 zr_202_114 rfl ?_
                                          refine zw_36 zr_202_115 ?_
                                          refine zw_4 zr_202_116 rfl ?_
                                          refine zw_C zr_202_118 (Or.inr rfl) zm_201 rfl rfl ⟨Nat.le_of_ble_eq_true rfl, Nat.le_of_ble_eq_true rfl, Nat.le_of_ble_eq_true rfl, rfl, by decide⟩ (by omega) (th_201 (d := d - 1) (by omega) hIm67 (a0 := a2) (a1 := i66)      (by omega) (by omega) ) ?_
                                          rintro _ _ ⟨r79, rfl, hr79a, hr79b, rfl⟩
                                          show zW E (d) 202 121 [(2, 69), (0, a0), (0, a1), (0, a2), (0, a3), (0, r51), (0, r52), (1, i64), (9, 0), (1, i65), (9, 0), (0, i66)] [(1, r79), (1, i65), (1, i64)] m67 Q
                                          refine zw_29h zr_202_121 ?_
                                          intro x80 hx80a hx80b
                                          refine zw_4 zr_202_122 rfl ?_
                                          refine zw_3 zr_202_124 rfl ?_
                                          refine zw_17 zr_202_125 (by omega) ?_
                                          refine zw_36 zr_202_126 ?_
                                          refine zw_4 zr_202_127 rfl ?_
                                          refine zw_4 zr_202_129 rfl ?_
                                          refine zw_17 zr_202_131 (by omega) ?_
                                          refine zw_C zr_202_132 (Or.inr rfl) zm_201 rfl rfl ⟨Nat.le_of_ble_eq_true rfl, Nat.le_of_ble_eq_true rfl, Nat.le_of_ble_eq_true rfl, rfl, by decide⟩ (by omega) (th_201 (d := d - 1) (by omega) hIm67 (a0 := (a3 - a2)) (a1 := (r51 - i66))      (by omega) (by omega) ) ?_
                                          rintro _ _ ⟨r81, rfl, hr81a, hr81b, rfl⟩
                                          show zW E (d) 202 135 [(2, 69), (0, a0), (0, a1), (0, a2), (0, a3), (0, r51), (0, r52), (1, i64), (9, 0), (1, i65), (9, 0), (0, i66)] [(1, r81), (1, x80), (1, i64)] m67 Q
                                          refine zw_29h zr_202_135 ?_
                                          intro x82 hx82a hx82b
                                          refine zw_42 zr_202_136 ?_
                                          refine zw_27h zr_202_140 ?_
                                          intro x83 hx83a hx83b
                                          refine zw_14 (L' := [(2, 69), (0, a0), (0, a1), (0, a2), (0, a3), (0, r51), (0, r52), (1, x83), (9, 0), (1, i65), (9, 0), (0, i66)]) zr_202_141 (Nat.le_of_ble_eq_true rfl) rfl ?_
                                          refine zw_6 zr_202_143 rfl ?_
                                          refine zw_4 zr_202_145 rfl ?_
                                          refine zw_4 zr_202_147 rfl ?_
                                          refine zw_17 zr_202_149 (by omega) ?_
                                          refine zw_36 zr_202_150 ?_
                                          refine zw_29h zr_202_151 ?_
                                          intro x84 hx84a hx84b
                                          refine zw_4 zr_202_152 rfl ?_
                                          refine zw_push zr_202_154 ?_
                                          refine zw_16 zr_202_155 (by omega) ?_
                                          refine zw_36 zr_202_156 ?_
                                          refine zw_118h zr_202_157 (by omega) ?_
                                          intro x85 hx85a hx85b
                                          refine zw_14 (L' := [(2, 69), (0, a0), (0, a1), (0, a2), (0, a3), (0, r51), (0, r52), (1, x83), (9, 0), (1, x85), (9, 0), (0, i66)]) zr_202_158 (Nat.le_of_ble_eq_true rfl) rfl ?_
                                          refine zw_15 (c := 1) (L' := [(2, 69), (0, a0), (0, a1), (0, a2), (0, a3), (0, r51), (0, r52), (1, x83), (9, 0), (1, x85), (9, 0), (0, (i66 + 1))]) zr_202_160 rfl (by decide) (by omega) rfl ?_
                                          refine zw_42 zr_202_163 ?_
                                          exact zw_less (L := [(2, 69), (0, a0), (0, a1), (0, a2), (0, a3), (0, r51), (0, r52), (1, x83), (9, 0), (1, x85), (9, 0), (0, (i66 + 1))]) ⟨Or.inr rfl, Or.inr rfl, Or.inr rfl, Or.inr rfl, Or.inr rfl, Or.inr rfl, Or.inr rfl, Or.inr rfl, Or.inl rfl, Or.inr rfl, Or.inl rfl, Or.inr rfl, trivial⟩ (ihlp96_68 (x83) (x85) ((i66 + 1)) m67 hIm67 hFm67  km67_70_822 fm67_70 (by omega) (by omega) (by omega) (by omega) (by omega) (by omega)  (by omega))
                                  exact lp96_68 _ (0) (1) (0) m0 hI0 hF0  hg0 hG70 (by omega) (by omega) (by omega) (by omega) (by omega) (by omega)  (Nat.lt_succ_self _)
                                · intro h86; omega
                          · intro h87; omega

set_option maxHeartbeats 8000000 in
theorem th_127 {E : zE} {d : Nat} {m0 : zM} (hd : 3 ≤ d) (hI0 : zInv m0) : zC E d 127 [(2, 0)] m0 (fun v m' => ∃ r : Int, v = (0, r) ∧ (-2147483648) ≤ r ∧ r ≤ 2147483647 ∧ m0 = m') := by
  generalize hQ : (fun (v : zV) (m' : zM) => ∃ r : Int, v = (0, r) ∧ (-2147483648) ≤ r ∧ r ≤ 2147483647 ∧ m0 = m') = Q
  show zW E d 127 0 [(2, 0), (9, 0), (9, 0), (9, 0)] [] m0 Q
  refine zw_push zr_127_0 ?_
  refine zw_9 (L' := [(2, 0), (0, 0), (9, 0), (9, 0)]) zr_127_1 (Nat.le_of_ble_eq_true rfl) rfl ?_
  refine zw_push zr_127_2 ?_
  refine zw_9 (L' := [(2, 0), (0, 0), (0, 0), (9, 0)]) zr_127_3 (Nat.le_of_ble_eq_true rfl) rfl ?_
  have lp4_3 : ∀ (nlp4_3 : Nat) (i1 i2 : Int), (-2147483648) ≤ i1 → i1 ≤ 2147483647 → 0 ≤ i2 → i2 ≤ 10 → (10 - i2).toNat < nlp4_3 → zW E (d) 127 4 [(2, 0), (0, i1), (0, i2), (9, 0)] [] m0 Q := by
    intro nlp4_3
    induction nlp4_3 with
    | zero =>
      intros
      exact absurd (by assumption : _ < 0) (Nat.not_lt_zero _)
    | succ nlp4_3 ihlp4_3 =>
      intro i1 i2 li1 ui1 li2 ui2 hmlp4_3
      refine zw_3 zr_127_4 rfl ?_
      refine zw_7 zr_127_5 rfl ?_
      refine zw_46r (s := 1) zr_127_6 rfl rfl rfl rfl ?_
      obtain ⟨f5, ef5⟩ : ∃ v, m0 1 0 = v := ⟨_, rfl⟩
      have bf5 := ib_1_0 hI0
      rw [ef5] at bf5
      refine zw_46i zr_127_9 ef5 rfl rfl rfl ?_
      refine zw_41_3 zr_127_12 ?_ ?_
      · intro h6
        refine zw_3 zr_127_63 rfl ?_
        refine zw_R zr_127_64 (by decide) zm_127 (v := (0, i1)) rfl ?_
        rw [← hQ]; exact ⟨_, rfl, by omega, by omega, rfl⟩
      · intro h7
        refine zw_3 zr_127_15 rfl ?_
        refine zw_push zr_127_16 ?_
        refine zw_16 zr_127_17 (by omega) ?_
        refine zw_9 (L' := [(2, 0), (0, i1), (0, i2), (0, (i2 + 1))]) zr_127_18 (Nat.le_of_ble_eq_true rfl) rfl ?_
        have lp19_10 : ∀ (nlp19_10 : Nat) (i8 i9 : Int), (-2147483648) ≤ i8 → i8 ≤ 2147483647 → 1 ≤ i9 → i9 ≤ 10 → (10 - i9).toNat < nlp19_10 → zW E (d) 127 19 [(2, 0), (0, i8), (0, i2), (0, i9)] [] m0 Q := by
          intro nlp19_10
          induction nlp19_10 with
          | zero =>
            intros
            exact absurd (by assumption : _ < 0) (Nat.not_lt_zero _)
          | succ nlp19_10 ihlp19_10 =>
            intro i8 i9 li8 ui8 li9 ui9 hmlp19_10
            refine zw_3 zr_127_19 rfl ?_
            refine zw_7 zr_127_20 rfl ?_
            refine zw_46r (s := 1) zr_127_21 rfl rfl rfl rfl ?_
            refine zw_46i zr_127_24 ef5 rfl rfl rfl ?_
            refine zw_41_3 zr_127_27 ?_ ?_
            · intro h12
              refine zw_15 (c := 1) (L' := [(2, 0), (0, i8), (0, (i2 + 1)), (0, i9)]) zr_127_57 rfl (by decide) (by omega) rfl ?_
              refine zw_42 zr_127_60 ?_
              exact zw_less (L := [(2, 0), (0, i8), (0, (i2 + 1)), (9, 0)]) ⟨Or.inr rfl, Or.inr rfl, Or.inr rfl, Or.inl rfl, trivial⟩ (ihlp4_3 (i8) ((i2 + 1))  (by omega) (by omega) (by omega) (by omega)  (by omega))
            · intro h13
              refine zw_7 zr_127_30 rfl ?_
              refine zw_46r (s := 1) zr_127_31 rfl rfl rfl rfl ?_
              refine zw_3 zr_127_34 rfl ?_
              refine zw_3 zr_127_35 rfl ?_
              refine zw_C zr_127_36 (Or.inl rfl) zm_56 rfl rfl ⟨Nat.le_of_ble_eq_true rfl, Nat.le_of_ble_eq_true rfl, Nat.le_of_ble_eq_true rfl, rfl, by decide⟩ (by omega) (th_56 (d := d - 1) (by omega) hI0 (a0 := i2) (a1 := i9)   (F6 := m0 6) (F7 := m0 7)  rfl rfl (by omega) (by omega) ) ?_
              rintro _ _ ⟨r14, rfl, hr14a, hr14b, rfl, po0_r14⟩
              show zW E (d) 127 39 [(2, 0), (0, i8), (0, i2), (0, i9)] [(0, r14)] m0 Q
              refine zw_push zr_127_39 ?_
              refine zw_push zr_127_40 ?_
              refine zw_C zr_127_42 (Or.inr rfl) zm_100 rfl rfl ⟨Nat.le_of_ble_eq_true rfl, Nat.le_of_ble_eq_true rfl, Nat.le_of_ble_eq_true rfl, rfl, by decide⟩ (by omega) (P := (fun v m' => zW E (d) 127 45 [(2, 0), (0, i8), (0, i2), (0, i9)] (if v.1 = 9 then [] else v :: []) m' Q)) ?_ (fun _ _ h => h)
              generalize hQ1 : (fun v m' => zW E (d) 127 45 [(2, 0), (0, i8), (0, i2), (0, i9)] (if v.1 = 9 then [] else v :: []) m' Q) = Q1
              show zW E (d - 1) 100 0 [(0, r14), (0, 1), (0, 15)] [] m0 Q1
              refine zw_3 zr_100_0 rfl ?_
              refine zw_3 zr_100_1 rfl ?_
              refine zw_41_0 zr_100_2 ?_ ?_
              · intro h15
                refine zw_push zr_100_14 ?_
                refine zw_R zr_100_15 (by decide) zm_100 (v := (0, 0)) (zRetB (by omega)) ?_
                rw [← hQ1]
                show zW E (d) 127 45 [(2, 0), (0, i8), (0, i2), (0, i9)] [(0, 0)] m0 Q
                refine zw_40_1 zr_127_45 ?_ ?_
                · intro h16
                  refine zw_15 (c := 1) (L' := [(2, 0), (0, i8), (0, i2), (0, (i9 + 1))]) zr_127_51 rfl (by decide) (by omega) rfl ?_
                  refine zw_42 zr_127_54 ?_
                  exact zw_less (L := [(2, 0), (0, i8), (0, i2), (0, (i9 + 1))]) ⟨Or.inr rfl, Or.inr rfl, Or.inr rfl, Or.inr rfl, trivial⟩ (ihlp19_10 (i8) ((i9 + 1))  (by omega) (by omega) (by omega) (by omega)  (by omega))
                · intro h17; omega
              · intro h18
                refine zw_3 zr_100_5 rfl ?_
                refine zw_3 zr_100_6 rfl ?_
                refine zw_41_2 zr_100_7 ?_ ?_
                · intro h19
                  refine zw_push zr_100_14 ?_
                  refine zw_R zr_100_15 (by decide) zm_100 (v := (0, 0)) (zRetB (by omega)) ?_
                  rw [← hQ1]
                  show zW E (d) 127 45 [(2, 0), (0, i8), (0, i2), (0, i9)] [(0, 0)] m0 Q
                  refine zw_40_1 zr_127_45 ?_ ?_
                  · intro h20
                    refine zw_15 (c := 1) (L' := [(2, 0), (0, i8), (0, i2), (0, (i9 + 1))]) zr_127_51 rfl (by decide) (by omega) rfl ?_
                    refine zw_42 zr_127_54 ?_
                    exact zw_less (L := [(2, 0), (0, i8), (0, i2), (0, (i9 + 1))]) ⟨Or.inr rfl, Or.inr rfl, Or.inr rfl, Or.inr rfl, trivial⟩ (ihlp19_10 (i8) ((i9 + 1))  (by omega) (by omega) (by omega) (by omega)  (by omega))
                  · intro h21; omega
                · intro h22
                  refine zw_push zr_100_10 ?_
                  refine zw_42 zr_100_11 ?_
                  refine zw_R zr_100_15 (by decide) zm_100 (v := (0, 1)) (zRetB (by omega)) ?_
                  rw [← hQ1]
                  show zW E (d) 127 45 [(2, 0), (0, i8), (0, i2), (0, i9)] [(0, 1)] m0 Q
                  refine zw_40_1 zr_127_45 ?_ ?_
                  · intro h23; omega
                  · intro h24
                    refine zw_15h (L' := fun r => [(2, 0), (0, r), (0, i2), (0, i9)]) zr_127_48 rfl (fun _ => rfl) ?_
                    intro x25 hx25a hx25b
                    show zW E (d) 127 51 [(2, 0), (0, x25), (0, i2), (0, i9)] [] m0 Q
                    refine zw_15 (c := 1) (L' := [(2, 0), (0, x25), (0, i2), (0, (i9 + 1))]) zr_127_51 rfl (by decide) (by omega) rfl ?_
                    refine zw_42 zr_127_54 ?_
                    exact zw_less (L := [(2, 0), (0, x25), (0, i2), (0, (i9 + 1))]) ⟨Or.inr rfl, Or.inr rfl, Or.inr rfl, Or.inr rfl, trivial⟩ (ihlp19_10 (x25) ((i9 + 1))  (by omega) (by omega) (by omega) (by omega)  (by omega))
        exact lp19_10 _ (i1) ((i2 + 1))  (by omega) (by omega) (by omega) (by omega)  (Nat.lt_succ_self _)
  exact lp4_3 _ (0) (0)  (by omega) (by omega) (by omega) (by omega)  (Nat.lt_succ_self _)

set_option maxHeartbeats 8000000 in
theorem th_203 {E : zE} {d : Nat} {m0 : zM} (hd : 4 ≤ d) (hI0 : zInv m0) : zC E d 203 [(2, 69)] m0 (fun v m' => ∃ r : Int, v = (0, r) ∧ (-2147483648) ≤ r ∧ r ≤ 2147483647 ∧ m0 = m') := by
  generalize hQ : (fun (v : zV) (m' : zM) => ∃ r : Int, v = (0, r) ∧ (-2147483648) ≤ r ∧ r ≤ 2147483647 ∧ m0 = m') = Q
  show zW E d 203 0 [(2, 69), (9, 0), (9, 0), (9, 0)] [] m0 Q
  refine zw_push zr_203_0 ?_
  refine zw_9 (L' := [(2, 69), (0, 0), (9, 0), (9, 0)]) zr_203_1 (Nat.le_of_ble_eq_true rfl) rfl ?_
  refine zw_push zr_203_2 ?_
  refine zw_9 (L' := [(2, 69), (0, 0), (0, 0), (9, 0)]) zr_203_3 (Nat.le_of_ble_eq_true rfl) rfl ?_
  have lp4_3 : ∀ (nlp4_3 : Nat) (i1 i2 : Int), (-2147483648) ≤ i1 → i1 ≤ 2147483647 → 0 ≤ i2 → i2 ≤ 10 → (10 - i2).toNat < nlp4_3 → zW E (d) 203 4 [(2, 69), (0, i1), (0, i2), (9, 0)] [] m0 Q := by
    intro nlp4_3
    induction nlp4_3 with
    | zero =>
      intros
      exact absurd (by assumption : _ < 0) (Nat.not_lt_zero _)
    | succ nlp4_3 ihlp4_3 =>
      intro i1 i2 li1 ui1 li2 ui2 hmlp4_3
      refine zw_3 zr_203_4 rfl ?_
      refine zw_7 zr_203_5 rfl ?_
      refine zw_C zr_203_6 (Or.inl rfl) zm_141 rfl rfl ⟨Nat.le_of_ble_eq_true rfl, Nat.le_of_ble_eq_true rfl, Nat.le_of_ble_eq_true rfl, rfl, by decide⟩ (by omega) (P := (fun v m' => zW E (d) 203 9 [(2, 69), (0, i1), (0, i2), (9, 0)] (if v.1 = 9 then [(0, i2)] else v :: [(0, i2)]) m' Q)) ?_ (fun _ _ h => h)
      generalize hQ1 : (fun v m' => zW E (d) 203 9 [(2, 69), (0, i1), (0, i2), (9, 0)] (if v.1 = 9 then [(0, i2)] else v :: [(0, i2)]) m' Q) = Q1
      show zW E (d - 1) 141 0 [(2, 69)] [] m0 Q1
      refine zw_7 zr_141_0 rfl ?_
      refine zw_46r (s := 70) zr_141_1 rfl rfl rfl rfl ?_
      refine zw_push zr_141_4 ?_
      obtain ⟨f5, ef5⟩ : ∃ v, m0 70 822 = v := ⟨_, rfl⟩
      have bf5 : 0 ≤ m0 70 822 ∧ m0 70 822 ≤ 10 := ib_70_players hI0 (by omega)
      rw [ef5] at bf5
      refine zw_48k (c := 70) (len := 826) zr_141_7 rfl rfl (by omega) (by omega) (show (822 : Int).toNat = 822 by omega) ef5 ?_
      refine zw_R zr_141_8 (by decide) zm_141 (v := (0, f5)) rfl ?_
      rw [← hQ1]
      show zW E (d) 203 9 [(2, 69), (0, i1), (0, i2), (9, 0)] [(0, f5), (0, i2)] m0 Q
      refine zw_41_3 zr_203_9 ?_ ?_
      · intro h6
        refine zw_3 zr_203_49 rfl ?_
        refine zw_R zr_203_50 (by decide) zm_203 (v := (0, i1)) rfl ?_
        rw [← hQ]; exact ⟨_, rfl, by omega, by omega, rfl⟩
      · intro h7
        refine zw_push zr_203_12 ?_
        refine zw_9 (L' := [(2, 69), (0, i1), (0, i2), (0, 0)]) zr_203_13 (Nat.le_of_ble_eq_true rfl) rfl ?_
        have lp14_10 : ∀ (nlp14_10 : Nat) (i8 i9 : Int), (-2147483648) ≤ i8 → i8 ≤ 2147483647 → 0 ≤ i9 → i9 ≤ 9 → (9 - i9).toNat < nlp14_10 → zW E (d) 203 14 [(2, 69), (0, i8), (0, i2), (0, i9)] [] m0 Q := by
          intro nlp14_10
          induction nlp14_10 with
          | zero =>
            intros
            exact absurd (by assumption : _ < 0) (Nat.not_lt_zero _)
          | succ nlp14_10 ihlp14_10 =>
            intro i8 i9 li8 ui8 li9 ui9 hmlp14_10
            refine zw_3 zr_203_14 rfl ?_
            refine zw_3 zr_203_15 rfl ?_
            refine zw_41_3 zr_203_16 ?_ ?_
            · intro h12
              refine zw_15 (c := 1) (L' := [(2, 69), (0, i8), (0, (i2 + 1)), (0, i9)]) zr_203_43 rfl (by decide) (by omega) rfl ?_
              refine zw_42 zr_203_46 ?_
              exact zw_less (L := [(2, 69), (0, i8), (0, (i2 + 1)), (9, 0)]) ⟨Or.inr rfl, Or.inr rfl, Or.inr rfl, Or.inl rfl, trivial⟩ (ihlp4_3 (i8) ((i2 + 1))  (by omega) (by omega) (by omega) (by omega)  (by omega))
            · intro h13
              refine zw_3 zr_203_19 rfl ?_
              refine zw_7 zr_203_20 rfl ?_
              refine zw_3 zr_203_21 rfl ?_
              refine zw_3 zr_203_22 rfl ?_
              refine zw_push zr_203_23 ?_
              refine zw_C zr_203_24 (Or.inl rfl) zm_200 rfl rfl ⟨Nat.le_of_ble_eq_true rfl, Nat.le_of_ble_eq_true rfl, Nat.le_of_ble_eq_true rfl, rfl, by decide⟩ (by omega) (th_200 (d := d - 1) (by omega) hI0 (a0 := i2) (a1 := i9) (a2 := 0)   (F70 := m0 70)  rfl (by omega) (by omega) (by omega) ) ?_
              rintro _ _ ⟨r14, rfl, hr14a, hr14b, rfl, po0_r14⟩
              show zW E (d) 203 27 [(2, 69), (0, i8), (0, i2), (0, i9)] [(0, r14), (0, i8)] m0 Q
              refine zw_40_5 zr_203_27 ?_ ?_
              · intro h15
                refine zw_push zr_203_34 ?_
                refine zw_16 zr_203_35 (by omega) ?_
                refine zw_9 (L' := [(2, 69), (0, (i8 + 0)), (0, i2), (0, i9)]) zr_203_36 (Nat.le_of_ble_eq_true rfl) rfl ?_
                refine zw_15 (c := 1) (L' := [(2, 69), (0, (i8 + 0)), (0, i2), (0, (i9 + 1))]) zr_203_37 rfl (by decide) (by omega) rfl ?_
                refine zw_42 zr_203_40 ?_
                exact zw_less (L := [(2, 69), (0, (i8 + 0)), (0, i2), (0, (i9 + 1))]) ⟨Or.inr rfl, Or.inr rfl, Or.inr rfl, Or.inr rfl, trivial⟩ (ihlp14_10 ((i8 + 0)) ((i9 + 1))  (by omega) (by omega) (by omega) (by omega)  (by omega))
              · intro h16
                refine zw_push zr_203_30 ?_
                refine zw_42 zr_203_31 ?_
                refine zw_16h zr_203_35 ?_
                intro x17 hx17a hx17b
                refine zw_9 (L' := [(2, 69), (0, x17), (0, i2), (0, i9)]) zr_203_36 (Nat.le_of_ble_eq_true rfl) rfl ?_
                refine zw_15 (c := 1) (L' := [(2, 69), (0, x17), (0, i2), (0, (i9 + 1))]) zr_203_37 rfl (by decide) (by omega) rfl ?_
                refine zw_42 zr_203_40 ?_
                exact zw_less (L := [(2, 69), (0, x17), (0, i2), (0, (i9 + 1))]) ⟨Or.inr rfl, Or.inr rfl, Or.inr rfl, Or.inr rfl, trivial⟩ (ihlp14_10 (x17) ((i9 + 1))  (by omega) (by omega) (by omega) (by omega)  (by omega))
        exact lp14_10 _ (i1) (0)  (by omega) (by omega) (by omega) (by omega)  (Nat.lt_succ_self _)
  exact lp4_3 _ (0) (0)  (by omega) (by omega) (by omega) (by omega)  (Nat.lt_succ_self _)

abbrev W_129 : List (Nat × Nat) := [(3, 1000), (4, 1000)]
set_option maxHeartbeats 8000000 in
theorem th_129 {E : zE} {d : Nat} {m0 : zM} {a0 : Int} {a1 : Int} {a2 : Int} {a3 : Int} {g0 : Int} {F3 : Nat → Int} {F4 : Nat → Int} (hd : 3 ≤ d) (hI0 : zInv m0) (hg0 : m0 1 0 = g0) (hG3 : m0 3 = F3) (hG4 : m0 4 = F4) (ha0 : (-2147483648) ≤ a0 ∧ a0 ≤ 2147483647) (ha1 : (-2147483648) ≤ a1 ∧ a1 ≤ 2147483647) (ha2 : (-2147483648) ≤ a2 ∧ a2 ≤ 2147483647) (ha3 : (-2147483648) ≤ a3 ∧ a3 ≤ 2147483647) : zC E d 129 [(2, 0), (0, a0), (0, a1), (0, a2), (0, a3)] m0 (fun v m' => ∃ r : Int, v = (0, r) ∧ (-2) ≤ r ∧ r ≤ 1 ∧ zInv m' ∧ zFr W_129 m0 m' ∧ ((r = -2 ∧ (a0 < 0 ∨ g0 ≤ a0 ∨ a1 < 0 ∨ 3 < a1 ∨ a3 < 1 ∨ 99 < a3 ∨ a2 < 0 ∨ a3 < a2)) ∨ (r = 1 ∧ (0 ≤ a0 ∧ a0 < g0 ∧ 0 ≤ a1 ∧ a1 ≤ 3 ∧ 1 ≤ a3 ∧ a3 ≤ 99 ∧ 0 ≤ a2 ∧ a2 ≤ a3))) ∧ (m' 3 = if 0 ≤ r then zPt F3 (a0 * 4 + a1).toNat a2 else F3) ∧ (m' 4 = if 0 ≤ r then zPt F4 (a0 * 4 + a1).toNat a3 else F4)) := by
  have hF0 : zFr W_129 m0 m0 := zFr.rfl
  have bg0 := ib_1_0 hI0
  rw [hg0] at bg0
  generalize hQ : (fun (v : zV) (m' : zM) => ∃ r : Int, v = (0, r) ∧ (-2) ≤ r ∧ r ≤ 1 ∧ zInv m' ∧ zFr W_129 m0 m' ∧ ((r = -2 ∧ (a0 < 0 ∨ g0 ≤ a0 ∨ a1 < 0 ∨ 3 < a1 ∨ a3 < 1 ∨ 99 < a3 ∨ a2 < 0 ∨ a3 < a2)) ∨ (r = 1 ∧ (0 ≤ a0 ∧ a0 < g0 ∧ 0 ≤ a1 ∧ a1 ≤ 3 ∧ 1 ≤ a3 ∧ a3 ≤ 99 ∧ 0 ≤ a2 ∧ a2 ≤ a3))) ∧ (m' 3 = if 0 ≤ r then zPt F3 (a0 * 4 + a1).toNat a2 else F3) ∧ (m' 4 = if 0 ≤ r then zPt F4 (a0 * 4 + a1).toNat a3 else F4)) = Q
  show zW E d 129 0 [(2, 0), (0, a0), (0, a1), (0, a2), (0, a3)] [] m0 Q
  refine zw_7 zr_129_0 rfl ?_
  refine zw_46r (s := 1) zr_129_1 rfl rfl rfl rfl ?_
  refine zw_3 zr_129_4 rfl ?_
  refine zw_C zr_129_5 (Or.inl rfl) zm_49 rfl rfl ⟨Nat.le_of_ble_eq_true rfl, Nat.le_of_ble_eq_true rfl, Nat.le_of_ble_eq_true rfl, rfl, by decide⟩ (by omega) (P := (fun v m' => zW E (d) 129 8 [(2, 0), (0, a0), (0, a1), (0, a2), (0, a3)] (if v.1 = 9 then [] else v :: []) m' Q)) ?_ (fun _ _ h => h)
  generalize hQ1 : (fun v m' => zW E (d) 129 8 [(2, 0), (0, a0), (0, a1), (0, a2), (0, a3)] (if v.1 = 9 then [] else v :: []) m' Q) = Q1
  show zW E (d - 1) 49 0 [(2, 1), (0, a0)] [] m0 Q1
  refine zw_3 zr_49_0 rfl ?_
  refine zw_40_0 zr_49_1 ?_ ?_
  · intro h1
    refine zw_push zr_49_16 ?_
    refine zw_R zr_49_17 (by decide) zm_49 (v := (0, 0)) (zRetB (by omega)) ?_
    rw [← hQ1]
    show zW E (d) 129 8 [(2, 0), (0, a0), (0, a1), (0, a2), (0, a3)] [(0, 0)] m0 Q
    refine zw_40_1 zr_129_8 ?_ ?_
    · intro h2
      refine zw_push zr_129_18 ?_
      refine zw_R zr_129_20 (by decide) zm_129 (v := (0, (-2))) rfl ?_
      rw [← hQ]; exact ⟨_, rfl, by omega, by omega, hI0, hF0, by omega, by rw [hG3]; first | exact (if_neg (by omega)).symm | exact (if_pos (by omega)).symm, by rw [hG4]; first | exact (if_neg (by omega)).symm | exact (if_pos (by omega)).symm⟩
    · intro h6; omega
  · intro h7
    refine zw_3 zr_49_4 rfl ?_
    refine zw_7 zr_49_5 rfl ?_
    refine zw_46i zr_49_6 hg0 rfl rfl rfl ?_
    refine zw_41_3 zr_49_9 ?_ ?_
    · intro h8
      refine zw_push zr_49_16 ?_
      refine zw_R zr_49_17 (by decide) zm_49 (v := (0, 0)) (zRetB (by omega)) ?_
      rw [← hQ1]
      show zW E (d) 129 8 [(2, 0), (0, a0), (0, a1), (0, a2), (0, a3)] [(0, 0)] m0 Q
      refine zw_40_1 zr_129_8 ?_ ?_
      · intro h9
        refine zw_push zr_129_18 ?_
        refine zw_R zr_129_20 (by decide) zm_129 (v := (0, (-2))) rfl ?_
        rw [← hQ]; exact ⟨_, rfl, by omega, by omega, hI0, hF0, by omega, by rw [hG3]; first | exact (if_neg (by omega)).symm | exact (if_pos (by omega)).symm, by rw [hG4]; first | exact (if_neg (by omega)).symm | exact (if_pos (by omega)).symm⟩
      · intro h13; omega
    · intro h14
      refine zw_push zr_49_12 ?_
      refine zw_42 zr_49_13 ?_
      refine zw_R zr_49_17 (by decide) zm_49 (v := (0, 1)) (zRetB (by omega)) ?_
      rw [← hQ1]
      show zW E (d) 129 8 [(2, 0), (0, a0), (0, a1), (0, a2), (0, a3)] [(0, 1)] m0 Q
      refine zw_40_1 zr_129_8 ?_ ?_
      · intro h15; omega
      · intro h16
        refine zw_3 zr_129_11 rfl ?_
        refine zw_C zr_129_12 (Or.inr rfl) zm_128 rfl rfl ⟨Nat.le_of_ble_eq_true rfl, Nat.le_of_ble_eq_true rfl, Nat.le_of_ble_eq_true rfl, rfl, by decide⟩ (by omega) (P := (fun v m' => zW E (d) 129 15 [(2, 0), (0, a0), (0, a1), (0, a2), (0, a3)] (if v.1 = 9 then [] else v :: []) m' Q)) ?_ (fun _ _ h => h)
        generalize hQ1 : (fun v m' => zW E (d) 129 15 [(2, 0), (0, a0), (0, a1), (0, a2), (0, a3)] (if v.1 = 9 then [] else v :: []) m' Q) = Q1
        show zW E (d - 1) 128 0 [(0, a1)] [] m0 Q1
        refine zw_3 zr_128_0 rfl ?_
        refine zw_push zr_128_1 ?_
        refine zw_push zr_128_2 ?_
        refine zw_C zr_128_3 (Or.inr rfl) zm_100 rfl rfl ⟨Nat.le_of_ble_eq_true rfl, Nat.le_of_ble_eq_true rfl, Nat.le_of_ble_eq_true rfl, rfl, by decide⟩ (by omega) (P := (fun v m' => zW E (d - 1) 128 6 [(0, a1)] (if v.1 = 9 then [] else v :: []) m' Q1)) ?_ (fun _ _ h => h)
        generalize hQ2 : (fun v m' => zW E (d - 1) 128 6 [(0, a1)] (if v.1 = 9 then [] else v :: []) m' Q1) = Q2
        show zW E (d - 1 - 1) 100 0 [(0, a1), (0, 0), (0, 3)] [] m0 Q2
        refine zw_3 zr_100_0 rfl ?_
        refine zw_3 zr_100_1 rfl ?_
        refine zw_41_0 zr_100_2 ?_ ?_
        · intro h17
          refine zw_push zr_100_14 ?_
          refine zw_R zr_100_15 (by decide) zm_100 (v := (0, 0)) (zRetB (by omega)) ?_
          rw [← hQ2]
          show zW E (d - 1) 128 6 [(0, a1)] [(0, 0)] m0 Q1
          refine zw_R zr_128_6 (by decide) zm_128 (v := (0, 0)) (zRetB (by omega)) ?_
          rw [← hQ1]
          show zW E (d) 129 15 [(2, 0), (0, a0), (0, a1), (0, a2), (0, a3)] [(0, 0)] m0 Q
          refine zw_40_4 zr_129_15 ?_ ?_
          · intro h18; omega
          · intro h19
            refine zw_push zr_129_18 ?_
            refine zw_R zr_129_20 (by decide) zm_129 (v := (0, (-2))) rfl ?_
            rw [← hQ]; exact ⟨_, rfl, by omega, by omega, hI0, hF0, by omega, by rw [hG3]; first | exact (if_neg (by omega)).symm | exact (if_pos (by omega)).symm, by rw [hG4]; first | exact (if_neg (by omega)).symm | exact (if_pos (by omega)).symm⟩
        · intro h23
          refine zw_3 zr_100_5 rfl ?_
          refine zw_3 zr_100_6 rfl ?_
          refine zw_41_2 zr_100_7 ?_ ?_
          · intro h24
            refine zw_push zr_100_14 ?_
            refine zw_R zr_100_15 (by decide) zm_100 (v := (0, 0)) (zRetB (by omega)) ?_
            rw [← hQ2]
            show zW E (d - 1) 128 6 [(0, a1)] [(0, 0)] m0 Q1
            refine zw_R zr_128_6 (by decide) zm_128 (v := (0, 0)) (zRetB (by omega)) ?_
            rw [← hQ1]
            show zW E (d) 129 15 [(2, 0), (0, a0), (0, a1), (0, a2), (0, a3)] [(0, 0)] m0 Q
            refine zw_40_4 zr_129_15 ?_ ?_
            · intro h25; omega
            · intro h26
              refine zw_push zr_129_18 ?_
              refine zw_R zr_129_20 (by decide) zm_129 (v := (0, (-2))) rfl ?_
              rw [← hQ]; exact ⟨_, rfl, by omega, by omega, hI0, hF0, by omega, by rw [hG3]; first | exact (if_neg (by omega)).symm | exact (if_pos (by omega)).symm, by rw [hG4]; first | exact (if_neg (by omega)).symm | exact (if_pos (by omega)).symm⟩
          · intro h30
            refine zw_push zr_100_10 ?_
            refine zw_42 zr_100_11 ?_
            refine zw_R zr_100_15 (by decide) zm_100 (v := (0, 1)) (zRetB (by omega)) ?_
            rw [← hQ2]
            show zW E (d - 1) 128 6 [(0, a1)] [(0, 1)] m0 Q1
            refine zw_R zr_128_6 (by decide) zm_128 (v := (0, 1)) (zRetB (by omega)) ?_
            rw [← hQ1]
            show zW E (d) 129 15 [(2, 0), (0, a0), (0, a1), (0, a2), (0, a3)] [(0, 1)] m0 Q
            refine zw_40_4 zr_129_15 ?_ ?_
            · intro h31
              refine zw_4 zr_129_21 rfl ?_
              refine zw_push zr_129_23 ?_
              refine zw_push zr_129_24 ?_
              refine zw_C zr_129_26 (Or.inr rfl) zm_100 rfl rfl ⟨Nat.le_of_ble_eq_true rfl, Nat.le_of_ble_eq_true rfl, Nat.le_of_ble_eq_true rfl, rfl, by decide⟩ (by omega) (P := (fun v m' => zW E (d) 129 29 [(2, 0), (0, a0), (0, a1), (0, a2), (0, a3)] (if v.1 = 9 then [] else v :: []) m' Q)) ?_ (fun _ _ h => h)
              generalize hQ1 : (fun v m' => zW E (d) 129 29 [(2, 0), (0, a0), (0, a1), (0, a2), (0, a3)] (if v.1 = 9 then [] else v :: []) m' Q) = Q1
              show zW E (d - 1) 100 0 [(0, a3), (0, 1), (0, 99)] [] m0 Q1
              refine zw_3 zr_100_0 rfl ?_
              refine zw_3 zr_100_1 rfl ?_
              refine zw_41_0 zr_100_2 ?_ ?_
              · intro h32
                refine zw_push zr_100_14 ?_
                refine zw_R zr_100_15 (by decide) zm_100 (v := (0, 0)) (zRetB (by omega)) ?_
                rw [← hQ1]
                show zW E (d) 129 29 [(2, 0), (0, a0), (0, a1), (0, a2), (0, a3)] [(0, 0)] m0 Q
                refine zw_40_1 zr_129_29 ?_ ?_
                · intro h33
                  refine zw_push zr_129_42 ?_
                  refine zw_R zr_129_44 (by decide) zm_129 (v := (0, (-2))) rfl ?_
                  rw [← hQ]; exact ⟨_, rfl, by omega, by omega, hI0, hF0, by omega, by rw [hG3]; first | exact (if_neg (by omega)).symm | exact (if_pos (by omega)).symm, by rw [hG4]; first | exact (if_neg (by omega)).symm | exact (if_pos (by omega)).symm⟩
                · intro h37; omega
              · intro h38
                refine zw_3 zr_100_5 rfl ?_
                refine zw_3 zr_100_6 rfl ?_
                refine zw_41_2 zr_100_7 ?_ ?_
                · intro h39
                  refine zw_push zr_100_14 ?_
                  refine zw_R zr_100_15 (by decide) zm_100 (v := (0, 0)) (zRetB (by omega)) ?_
                  rw [← hQ1]
                  show zW E (d) 129 29 [(2, 0), (0, a0), (0, a1), (0, a2), (0, a3)] [(0, 0)] m0 Q
                  refine zw_40_1 zr_129_29 ?_ ?_
                  · intro h40
                    refine zw_push zr_129_42 ?_
                    refine zw_R zr_129_44 (by decide) zm_129 (v := (0, (-2))) rfl ?_
                    rw [← hQ]; exact ⟨_, rfl, by omega, by omega, hI0, hF0, by omega, by rw [hG3]; first | exact (if_neg (by omega)).symm | exact (if_pos (by omega)).symm, by rw [hG4]; first | exact (if_neg (by omega)).symm | exact (if_pos (by omega)).symm⟩
                  · intro h44; omega
                · intro h45
                  refine zw_push zr_100_10 ?_
                  refine zw_42 zr_100_11 ?_
                  refine zw_R zr_100_15 (by decide) zm_100 (v := (0, 1)) (zRetB (by omega)) ?_
                  rw [← hQ1]
                  show zW E (d) 129 29 [(2, 0), (0, a0), (0, a1), (0, a2), (0, a3)] [(0, 1)] m0 Q
                  refine zw_40_1 zr_129_29 ?_ ?_
                  · intro h46; omega
                  · intro h47
                    refine zw_3 zr_129_32 rfl ?_
                    refine zw_push zr_129_33 ?_
                    refine zw_4 zr_129_34 rfl ?_
                    refine zw_C zr_129_36 (Or.inr rfl) zm_100 rfl rfl ⟨Nat.le_of_ble_eq_true rfl, Nat.le_of_ble_eq_true rfl, Nat.le_of_ble_eq_true rfl, rfl, by decide⟩ (by omega) (P := (fun v m' => zW E (d) 129 39 [(2, 0), (0, a0), (0, a1), (0, a2), (0, a3)] (if v.1 = 9 then [] else v :: []) m' Q)) ?_ (fun _ _ h => h)
                    generalize hQ1 : (fun v m' => zW E (d) 129 39 [(2, 0), (0, a0), (0, a1), (0, a2), (0, a3)] (if v.1 = 9 then [] else v :: []) m' Q) = Q1
                    show zW E (d - 1) 100 0 [(0, a2), (0, 0), (0, a3)] [] m0 Q1
                    refine zw_3 zr_100_0 rfl ?_
                    refine zw_3 zr_100_1 rfl ?_
                    refine zw_41_0 zr_100_2 ?_ ?_
                    · intro h48
                      refine zw_push zr_100_14 ?_
                      refine zw_R zr_100_15 (by decide) zm_100 (v := (0, 0)) (zRetB (by omega)) ?_
                      rw [← hQ1]
                      show zW E (d) 129 39 [(2, 0), (0, a0), (0, a1), (0, a2), (0, a3)] [(0, 0)] m0 Q
                      refine zw_40_4 zr_129_39 ?_ ?_
                      · intro h49; omega
                      · intro h50
                        refine zw_push zr_129_42 ?_
                        refine zw_R zr_129_44 (by decide) zm_129 (v := (0, (-2))) rfl ?_
                        rw [← hQ]; exact ⟨_, rfl, by omega, by omega, hI0, hF0, by omega, by rw [hG3]; first | exact (if_neg (by omega)).symm | exact (if_pos (by omega)).symm, by rw [hG4]; first | exact (if_neg (by omega)).symm | exact (if_pos (by omega)).symm⟩
                    · intro h54
                      refine zw_3 zr_100_5 rfl ?_
                      refine zw_3 zr_100_6 rfl ?_
                      refine zw_41_2 zr_100_7 ?_ ?_
                      · intro h55
                        refine zw_push zr_100_14 ?_
                        refine zw_R zr_100_15 (by decide) zm_100 (v := (0, 0)) (zRetB (by omega)) ?_
                        rw [← hQ1]
                        show zW E (d) 129 39 [(2, 0), (0, a0), (0, a1), (0, a2), (0, a3)] [(0, 0)] m0 Q
                        refine zw_40_4 zr_129_39 ?_ ?_
                        · intro h56; omega
                        · intro h57
                          refine zw_push zr_129_42 ?_
                          refine zw_R zr_129_44 (by decide) zm_129 (v := (0, (-2))) rfl ?_
                          rw [← hQ]; exact ⟨_, rfl, by omega, by omega, hI0, hF0, by omega, by rw [hG3]; first | exact (if_neg (by omega)).symm | exact (if_pos (by omega)).symm, by rw [hG4]; first | exact (if_neg (by omega)).symm | exact (if_pos (by omega)).symm⟩
                      · intro h61
                        refine zw_push zr_100_10 ?_
                        refine zw_42 zr_100_11 ?_
                        refine zw_R zr_100_15 (by decide) zm_100 (v := (0, 1)) (zRetB (by omega)) ?_
                        rw [← hQ1]
                        show zW E (d) 129 39 [(2, 0), (0, a0), (0, a1), (0, a2), (0, a3)] [(0, 1)] m0 Q
                        refine zw_40_4 zr_129_39 ?_ ?_
                        · intro h62
                          refine zw_7 zr_129_45 rfl ?_
                          refine zw_46r (s := 1) zr_129_46 rfl rfl rfl rfl ?_
                          refine zw_46r (s := 3) zr_129_49 rfl rfl rfl rfl ?_
                          refine zw_3 zr_129_52 rfl ?_
                          refine zw_push zr_129_53 ?_
                          refine zw_18 zr_129_54 (by omega) ?_
                          refine zw_3 zr_129_55 rfl ?_
                          refine zw_16 zr_129_56 (by omega) ?_
                          refine zw_3 zr_129_57 rfl ?_
                          refine zw_49 (c := 3) (len := 40) zr_129_58 rfl rfl (by omega) (by omega) ?_
                          intro m63 em63
                          have hIm63 : zInv m63 := by rw [em63]; exact iu_3 hI0 (by omega)
                          have hFm63 : zFr W_129 m0 m63 := by rw [em63]; exact hF0.any rfl
                          have km63_1_0 : m63 1 0 = g0 := by rw [em63, zUp_ne (by omega)]; exact hg0
                          have fm63_3 : m63 3 = zPt F3 ((((a0 * 4) + a1)).toNat) a2 := by rw [em63]; exact (zUp_ff (m := m0)).trans (congrArg (fun q => zPt q ((((a0 * 4) + a1)).toNat) a2) hG3)
                          have fm63_4 : m63 4 = F4 := by rw [em63, zUp_fn (by decide)]; exact hG4
                          clear em63
                          refine zw_7 zr_129_59 rfl ?_
                          refine zw_46r (s := 1) zr_129_60 rfl rfl rfl rfl ?_
                          refine zw_46r (s := 4) zr_129_63 rfl rfl rfl rfl ?_
                          refine zw_3 zr_129_66 rfl ?_
                          refine zw_push zr_129_67 ?_
                          refine zw_18 zr_129_68 (by omega) ?_
                          refine zw_3 zr_129_69 rfl ?_
                          refine zw_16 zr_129_70 (by omega) ?_
                          refine zw_4 zr_129_71 rfl ?_
                          refine zw_49 (c := 4) (len := 40) zr_129_73 rfl rfl (by omega) (by omega) ?_
                          intro m64 em64
                          have hIm64 : zInv m64 := by rw [em64]; exact iu_4 hIm63 (by omega)
                          have hFm64 : zFr W_129 m0 m64 := by rw [em64]; exact hFm63.any rfl
                          have km64_1_0 : m64 1 0 = g0 := by rw [em64, zUp_ne (by omega)]; exact km63_1_0
                          have fm64_3 : m64 3 = zPt F3 ((((a0 * 4) + a1)).toNat) a2 := by rw [em64, zUp_fn (by decide)]; exact fm63_3
                          have fm64_4 : m64 4 = zPt F4 ((((a0 * 4) + a1)).toNat) a3 := by rw [em64]; exact (zUp_ff (m := m63)).trans (congrArg (fun q => zPt q ((((a0 * 4) + a1)).toNat) a3) fm63_4)
                          clear em64
                          refine zw_push zr_129_74 ?_
                          refine zw_R zr_129_75 (by decide) zm_129 (v := (0, 1)) rfl ?_
                          rw [← hQ]; exact ⟨_, rfl, by omega, by omega, hIm64, hFm64, by omega, by rw [fm64_3]; first | exact (if_neg (by omega)).symm | exact (if_pos (by omega)).symm, by rw [fm64_4]; first | exact (if_neg (by omega)).symm | exact (if_pos (by omega)).symm⟩
                        · intro h68; omega
            · intro h69; omega

abbrev W_204 : List (Nat × Nat) := [(70, 1000)]
set_option maxHeartbeats 8000000 in
theorem th_204 {E : zE} {d : Nat} {m0 : zM} {a0 : Int} {a1 : Int} {a2 : Int} {a3 : Int} {g0 : Int} {F70 : Nat → Int} (hd : 3 ≤ d) (hI0 : zInv m0) (hg0 : m0 70 822 = g0) (hG70 : m0 70 = F70) (ha0 : (-2147483648) ≤ a0 ∧ a0 ≤ 2147483647) (ha1 : (-2147483648) ≤ a1 ∧ a1 ≤ 2147483647) (ha2 : (-2147483648) ≤ a2 ∧ a2 ≤ 2147483647) (ha3 : (-2147483648) ≤ a3 ∧ a3 ≤ 2147483647) : zC E d 204 [(2, 69), (0, a0), (0, a1), (0, a2), (0, a3)] m0 (fun v m' => ∃ r : Int, v = (0, r) ∧ (-2) ≤ r ∧ r ≤ 1 ∧ zInv m' ∧ zFr W_204 m0 m' ∧ ((r = -2 ∧ (a0 < 0 ∨ g0 ≤ a0 ∨ a1 < 0 ∨ 3 < a1 ∨ a3 < 1 ∨ 99 < a3 ∨ a2 < 0 ∨ a3 < a2)) ∨ (r = 1 ∧ (0 ≤ a0 ∧ a0 < g0 ∧ 0 ≤ a1 ∧ a1 ≤ 3 ∧ 1 ≤ a3 ∧ a3 ≤ 99 ∧ 0 ≤ a2 ∧ a2 ≤ a3))) ∧ (m' 70 = if 0 ≤ r then zPt (zPt F70 (10 + 8 * a0 + 2 * a1).toNat a2) (10 + 8 * a0 + 2 * a1 + 1).toNat a3 else F70)) := by
  have hF0 : zFr W_204 m0 m0 := zFr.rfl
  have bg0 : 0 ≤ m0 70 822 ∧ m0 70 822 ≤ 10 := ib_70_players hI0 (by omega)
  rw [hg0] at bg0
  generalize hQ : (fun (v : zV) (m' : zM) => ∃ r : Int, v = (0, r) ∧ (-2) ≤ r ∧ r ≤ 1 ∧ zInv m' ∧ zFr W_204 m0 m' ∧ ((r = -2 ∧ (a0 < 0 ∨ g0 ≤ a0 ∨ a1 < 0 ∨ 3 < a1 ∨ a3 < 1 ∨ 99 < a3 ∨ a2 < 0 ∨ a3 < a2)) ∨ (r = 1 ∧ (0 ≤ a0 ∧ a0 < g0 ∧ 0 ≤ a1 ∧ a1 ≤ 3 ∧ 1 ≤ a3 ∧ a3 ≤ 99 ∧ 0 ≤ a2 ∧ a2 ≤ a3))) ∧ (m' 70 = if 0 ≤ r then zPt (zPt F70 (10 + 8 * a0 + 2 * a1).toNat a2) (10 + 8 * a0 + 2 * a1 + 1).toNat a3 else F70)) = Q
  show zW E d 204 0 [(2, 69), (0, a0), (0, a1), (0, a2), (0, a3)] [] m0 Q
  refine zw_7 zr_204_0 rfl ?_
  refine zw_3 zr_204_1 rfl ?_
  refine zw_C zr_204_2 (Or.inl rfl) zm_143 rfl rfl ⟨Nat.le_of_ble_eq_true rfl, Nat.le_of_ble_eq_true rfl, Nat.le_of_ble_eq_true rfl, rfl, by decide⟩ (by omega) (P := (fun v m' => zW E (d) 204 5 [(2, 69), (0, a0), (0, a1), (0, a2), (0, a3)] (if v.1 = 9 then [] else v :: []) m' Q)) ?_ (fun _ _ h => h)
  generalize hQ1 : (fun v m' => zW E (d) 204 5 [(2, 69), (0, a0), (0, a1), (0, a2), (0, a3)] (if v.1 = 9 then [] else v :: []) m' Q) = Q1
  show zW E (d - 1) 143 0 [(2, 69), (0, a0)] [] m0 Q1
  refine zw_3 zr_143_0 rfl ?_
  refine zw_36 zr_143_1 ?_
  refine zw_push zr_143_2 ?_
  refine zw_7 zr_143_3 rfl ?_
  refine zw_C zr_143_4 (Or.inl rfl) zm_141 rfl rfl ⟨Nat.le_of_ble_eq_true rfl, Nat.le_of_ble_eq_true rfl, Nat.le_of_ble_eq_true rfl, rfl, by decide⟩ (by omega) (P := (fun v m' => zW E (d - 1) 143 7 [(2, 69), (0, a0)] (if v.1 = 9 then [(1, 0), (1, a0)] else v :: [(1, 0), (1, a0)]) m' Q1)) ?_ (fun _ _ h => h)
  generalize hQ2 : (fun v m' => zW E (d - 1) 143 7 [(2, 69), (0, a0)] (if v.1 = 9 then [(1, 0), (1, a0)] else v :: [(1, 0), (1, a0)]) m' Q1) = Q2
  show zW E (d - 1 - 1) 141 0 [(2, 69)] [] m0 Q2
  refine zw_7 zr_141_0 rfl ?_
  refine zw_46r (s := 70) zr_141_1 rfl rfl rfl rfl ?_
  refine zw_push zr_141_4 ?_
  refine zw_48k (c := 70) (len := 826) zr_141_7 rfl rfl (by omega) (by omega) (show (822 : Int).toNat = 822 by omega) hg0 ?_
  refine zw_R zr_141_8 (by decide) zm_141 (v := (0, g0)) rfl ?_
  rw [← hQ2]
  show zW E (d - 1) 143 7 [(2, 69), (0, a0)] [(0, g0), (1, 0), (1, a0)] m0 Q1
  refine zw_push zr_143_7 ?_
  refine zw_17 zr_143_8 (by omega) ?_
  refine zw_36 zr_143_9 ?_
  refine zw_C zr_143_10 (Or.inr rfl) zm_140 rfl rfl ⟨Nat.le_of_ble_eq_true rfl, Nat.le_of_ble_eq_true rfl, Nat.le_of_ble_eq_true rfl, rfl, by decide⟩ (by omega) (P := (fun v m' => zW E (d - 1) 143 13 [(2, 69), (0, a0)] (if v.1 = 9 then [] else v :: []) m' Q1)) ?_ (fun _ _ h => h)
  generalize hQ2 : (fun v m' => zW E (d - 1) 143 13 [(2, 69), (0, a0)] (if v.1 = 9 then [] else v :: []) m' Q1) = Q2
  show zW E (d - 1 - 1) 140 0 [(1, a0), (9, 0), (1, 0), (9, 0), (1, (g0 - 1)), (9, 0)] [] m0 Q2
  refine zw_5 zr_140_0 rfl ?_
  refine zw_5 zr_140_1 rfl ?_
  refine zw_39_0 zr_140_2 zr_140_3 ?_ ?_
  · intro h1
    refine zw_push zr_140_17 ?_
    refine zw_R zr_140_18 (by decide) zm_140 (v := (0, 0)) (zRetB (by omega)) ?_
    rw [← hQ2]
    show zW E (d - 1) 143 13 [(2, 69), (0, a0)] [(0, 0)] m0 Q1
    refine zw_R zr_143_13 (by decide) zm_143 (v := (0, 0)) (zRetB (by omega)) ?_
    rw [← hQ1]
    show zW E (d) 204 5 [(2, 69), (0, a0), (0, a1), (0, a2), (0, a3)] [(0, 0)] m0 Q
    refine zw_40_1 zr_204_5 ?_ ?_
    · intro h2
      refine zw_push zr_204_40 ?_
      refine zw_R zr_204_42 (by decide) zm_204 (v := (0, (-2))) rfl ?_
      rw [← hQ]; exact ⟨_, rfl, by omega, by omega, hI0, hF0, by omega, by rw [hG70]; first | exact (if_neg (by omega)).symm | exact (if_pos (by omega)).symm⟩
    · intro h5; omega
  · intro h6
    refine zw_5 zr_140_6 rfl ?_
    refine zw_6 zr_140_7 rfl ?_
    refine zw_39_2 zr_140_9 zr_140_10 ?_ ?_
    · intro h7
      refine zw_push zr_140_17 ?_
      refine zw_R zr_140_18 (by decide) zm_140 (v := (0, 0)) (zRetB (by omega)) ?_
      rw [← hQ2]
      show zW E (d - 1) 143 13 [(2, 69), (0, a0)] [(0, 0)] m0 Q1
      refine zw_R zr_143_13 (by decide) zm_143 (v := (0, 0)) (zRetB (by omega)) ?_
      rw [← hQ1]
      show zW E (d) 204 5 [(2, 69), (0, a0), (0, a1), (0, a2), (0, a3)] [(0, 0)] m0 Q
      refine zw_40_1 zr_204_5 ?_ ?_
      · intro h8
        refine zw_push zr_204_40 ?_
        refine zw_R zr_204_42 (by decide) zm_204 (v := (0, (-2))) rfl ?_
        rw [← hQ]; exact ⟨_, rfl, by omega, by omega, hI0, hF0, by omega, by rw [hG70]; first | exact (if_neg (by omega)).symm | exact (if_pos (by omega)).symm⟩
      · intro h11; omega
    · intro h12
      refine zw_push zr_140_13 ?_
      refine zw_42 zr_140_14 ?_
      refine zw_R zr_140_18 (by decide) zm_140 (v := (0, 1)) (zRetB (by omega)) ?_
      rw [← hQ2]
      show zW E (d - 1) 143 13 [(2, 69), (0, a0)] [(0, 1)] m0 Q1
      refine zw_R zr_143_13 (by decide) zm_143 (v := (0, 1)) (zRetB (by omega)) ?_
      rw [← hQ1]
      show zW E (d) 204 5 [(2, 69), (0, a0), (0, a1), (0, a2), (0, a3)] [(0, 1)] m0 Q
      refine zw_40_1 zr_204_5 ?_ ?_
      · intro h13; omega
      · intro h14
        refine zw_3 zr_204_8 rfl ?_
        refine zw_C zr_204_9 (Or.inr rfl) zm_148 rfl rfl ⟨Nat.le_of_ble_eq_true rfl, Nat.le_of_ble_eq_true rfl, Nat.le_of_ble_eq_true rfl, rfl, by decide⟩ (by omega) (P := (fun v m' => zW E (d) 204 12 [(2, 69), (0, a0), (0, a1), (0, a2), (0, a3)] (if v.1 = 9 then [] else v :: []) m' Q)) ?_ (fun _ _ h => h)
        generalize hQ1 : (fun v m' => zW E (d) 204 12 [(2, 69), (0, a0), (0, a1), (0, a2), (0, a3)] (if v.1 = 9 then [] else v :: []) m' Q) = Q1
        show zW E (d - 1) 148 0 [(0, a1)] [] m0 Q1
        refine zw_3 zr_148_0 rfl ?_
        refine zw_36 zr_148_1 ?_
        refine zw_push zr_148_2 ?_
        refine zw_push zr_148_3 ?_
        refine zw_C zr_148_6 (Or.inr rfl) zm_140 rfl rfl ⟨Nat.le_of_ble_eq_true rfl, Nat.le_of_ble_eq_true rfl, Nat.le_of_ble_eq_true rfl, rfl, by decide⟩ (by omega) (P := (fun v m' => zW E (d - 1) 148 9 [(0, a1)] (if v.1 = 9 then [] else v :: []) m' Q1)) ?_ (fun _ _ h => h)
        generalize hQ2 : (fun v m' => zW E (d - 1) 148 9 [(0, a1)] (if v.1 = 9 then [] else v :: []) m' Q1) = Q2
        show zW E (d - 1 - 1) 140 0 [(1, a1), (9, 0), (1, 0), (9, 0), (1, 3), (9, 0)] [] m0 Q2
        refine zw_5 zr_140_0 rfl ?_
        refine zw_5 zr_140_1 rfl ?_
        refine zw_39_0 zr_140_2 zr_140_3 ?_ ?_
        · intro h15
          refine zw_push zr_140_17 ?_
          refine zw_R zr_140_18 (by decide) zm_140 (v := (0, 0)) (zRetB (by omega)) ?_
          rw [← hQ2]
          show zW E (d - 1) 148 9 [(0, a1)] [(0, 0)] m0 Q1
          refine zw_R zr_148_9 (by decide) zm_148 (v := (0, 0)) (zRetB (by omega)) ?_
          rw [← hQ1]
          show zW E (d) 204 12 [(2, 69), (0, a0), (0, a1), (0, a2), (0, a3)] [(0, 0)] m0 Q
          refine zw_40_1 zr_204_12 ?_ ?_
          · intro h16
            refine zw_push zr_204_40 ?_
            refine zw_R zr_204_42 (by decide) zm_204 (v := (0, (-2))) rfl ?_
            rw [← hQ]; exact ⟨_, rfl, by omega, by omega, hI0, hF0, by omega, by rw [hG70]; first | exact (if_neg (by omega)).symm | exact (if_pos (by omega)).symm⟩
          · intro h19; omega
        · intro h20
          refine zw_5 zr_140_6 rfl ?_
          refine zw_6 zr_140_7 rfl ?_
          refine zw_39_2 zr_140_9 zr_140_10 ?_ ?_
          · intro h21
            refine zw_push zr_140_17 ?_
            refine zw_R zr_140_18 (by decide) zm_140 (v := (0, 0)) (zRetB (by omega)) ?_
            rw [← hQ2]
            show zW E (d - 1) 148 9 [(0, a1)] [(0, 0)] m0 Q1
            refine zw_R zr_148_9 (by decide) zm_148 (v := (0, 0)) (zRetB (by omega)) ?_
            rw [← hQ1]
            show zW E (d) 204 12 [(2, 69), (0, a0), (0, a1), (0, a2), (0, a3)] [(0, 0)] m0 Q
            refine zw_40_1 zr_204_12 ?_ ?_
            · intro h22
              refine zw_push zr_204_40 ?_
              refine zw_R zr_204_42 (by decide) zm_204 (v := (0, (-2))) rfl ?_
              rw [← hQ]; exact ⟨_, rfl, by omega, by omega, hI0, hF0, by omega, by rw [hG70]; first | exact (if_neg (by omega)).symm | exact (if_pos (by omega)).symm⟩
            · intro h25; omega
          · intro h26
            refine zw_push zr_140_13 ?_
            refine zw_42 zr_140_14 ?_
            refine zw_R zr_140_18 (by decide) zm_140 (v := (0, 1)) (zRetB (by omega)) ?_
            rw [← hQ2]
            show zW E (d - 1) 148 9 [(0, a1)] [(0, 1)] m0 Q1
            refine zw_R zr_148_9 (by decide) zm_148 (v := (0, 1)) (zRetB (by omega)) ?_
            rw [← hQ1]
            show zW E (d) 204 12 [(2, 69), (0, a0), (0, a1), (0, a2), (0, a3)] [(0, 1)] m0 Q
            refine zw_40_1 zr_204_12 ?_ ?_
            · intro h27; omega
            · intro h28
              refine zw_4 zr_204_15 rfl ?_
              refine zw_36 zr_204_17 ?_
              refine zw_push zr_204_18 ?_
              refine zw_push zr_204_19 ?_
              refine zw_C zr_204_22 (Or.inr rfl) zm_140 rfl rfl ⟨Nat.le_of_ble_eq_true rfl, Nat.le_of_ble_eq_true rfl, Nat.le_of_ble_eq_true rfl, rfl, by decide⟩ (by omega) (P := (fun v m' => zW E (d) 204 25 [(2, 69), (0, a0), (0, a1), (0, a2), (0, a3)] (if v.1 = 9 then [] else v :: []) m' Q)) ?_ (fun _ _ h => h)
              generalize hQ1 : (fun v m' => zW E (d) 204 25 [(2, 69), (0, a0), (0, a1), (0, a2), (0, a3)] (if v.1 = 9 then [] else v :: []) m' Q) = Q1
              show zW E (d - 1) 140 0 [(1, a3), (9, 0), (1, 1), (9, 0), (1, 99), (9, 0)] [] m0 Q1
              refine zw_5 zr_140_0 rfl ?_
              refine zw_5 zr_140_1 rfl ?_
              refine zw_39_0 zr_140_2 zr_140_3 ?_ ?_
              · intro h29
                refine zw_push zr_140_17 ?_
                refine zw_R zr_140_18 (by decide) zm_140 (v := (0, 0)) (zRetB (by omega)) ?_
                rw [← hQ1]
                show zW E (d) 204 25 [(2, 69), (0, a0), (0, a1), (0, a2), (0, a3)] [(0, 0)] m0 Q
                refine zw_40_1 zr_204_25 ?_ ?_
                · intro h30
                  refine zw_push zr_204_40 ?_
                  refine zw_R zr_204_42 (by decide) zm_204 (v := (0, (-2))) rfl ?_
                  rw [← hQ]; exact ⟨_, rfl, by omega, by omega, hI0, hF0, by omega, by rw [hG70]; first | exact (if_neg (by omega)).symm | exact (if_pos (by omega)).symm⟩
                · intro h33; omega
              · intro h34
                refine zw_5 zr_140_6 rfl ?_
                refine zw_6 zr_140_7 rfl ?_
                refine zw_39_2 zr_140_9 zr_140_10 ?_ ?_
                · intro h35
                  refine zw_push zr_140_17 ?_
                  refine zw_R zr_140_18 (by decide) zm_140 (v := (0, 0)) (zRetB (by omega)) ?_
                  rw [← hQ1]
                  show zW E (d) 204 25 [(2, 69), (0, a0), (0, a1), (0, a2), (0, a3)] [(0, 0)] m0 Q
                  refine zw_40_1 zr_204_25 ?_ ?_
                  · intro h36
                    refine zw_push zr_204_40 ?_
                    refine zw_R zr_204_42 (by decide) zm_204 (v := (0, (-2))) rfl ?_
                    rw [← hQ]; exact ⟨_, rfl, by omega, by omega, hI0, hF0, by omega, by rw [hG70]; first | exact (if_neg (by omega)).symm | exact (if_pos (by omega)).symm⟩
                  · intro h39; omega
                · intro h40
                  refine zw_push zr_140_13 ?_
                  refine zw_42 zr_140_14 ?_
                  refine zw_R zr_140_18 (by decide) zm_140 (v := (0, 1)) (zRetB (by omega)) ?_
                  rw [← hQ1]
                  show zW E (d) 204 25 [(2, 69), (0, a0), (0, a1), (0, a2), (0, a3)] [(0, 1)] m0 Q
                  refine zw_40_1 zr_204_25 ?_ ?_
                  · intro h41; omega
                  · intro h42
                    refine zw_3 zr_204_28 rfl ?_
                    refine zw_36 zr_204_29 ?_
                    refine zw_push zr_204_30 ?_
                    refine zw_4 zr_204_31 rfl ?_
                    refine zw_36 zr_204_33 ?_
                    refine zw_C zr_204_34 (Or.inr rfl) zm_140 rfl rfl ⟨Nat.le_of_ble_eq_true rfl, Nat.le_of_ble_eq_true rfl, Nat.le_of_ble_eq_true rfl, rfl, by decide⟩ (by omega) (P := (fun v m' => zW E (d) 204 37 [(2, 69), (0, a0), (0, a1), (0, a2), (0, a3)] (if v.1 = 9 then [] else v :: []) m' Q)) ?_ (fun _ _ h => h)
                    generalize hQ1 : (fun v m' => zW E (d) 204 37 [(2, 69), (0, a0), (0, a1), (0, a2), (0, a3)] (if v.1 = 9 then [] else v :: []) m' Q) = Q1
                    show zW E (d - 1) 140 0 [(1, a2), (9, 0), (1, 0), (9, 0), (1, a3), (9, 0)] [] m0 Q1
                    refine zw_5 zr_140_0 rfl ?_
                    refine zw_5 zr_140_1 rfl ?_
                    refine zw_39_0 zr_140_2 zr_140_3 ?_ ?_
                    · intro h43
                      refine zw_push zr_140_17 ?_
                      refine zw_R zr_140_18 (by decide) zm_140 (v := (0, 0)) (zRetB (by omega)) ?_
                      rw [← hQ1]
                      show zW E (d) 204 37 [(2, 69), (0, a0), (0, a1), (0, a2), (0, a3)] [(0, 0)] m0 Q
                      refine zw_40_4 zr_204_37 ?_ ?_
                      · intro h44; omega
                      · intro h45
                        refine zw_push zr_204_40 ?_
                        refine zw_R zr_204_42 (by decide) zm_204 (v := (0, (-2))) rfl ?_
                        rw [← hQ]; exact ⟨_, rfl, by omega, by omega, hI0, hF0, by omega, by rw [hG70]; first | exact (if_neg (by omega)).symm | exact (if_pos (by omega)).symm⟩
                    · intro h48
                      refine zw_5 zr_140_6 rfl ?_
                      refine zw_6 zr_140_7 rfl ?_
                      refine zw_39_2 zr_140_9 zr_140_10 ?_ ?_
                      · intro h49
                        refine zw_push zr_140_17 ?_
                        refine zw_R zr_140_18 (by decide) zm_140 (v := (0, 0)) (zRetB (by omega)) ?_
                        rw [← hQ1]
                        show zW E (d) 204 37 [(2, 69), (0, a0), (0, a1), (0, a2), (0, a3)] [(0, 0)] m0 Q
                        refine zw_40_4 zr_204_37 ?_ ?_
                        · intro h50; omega
                        · intro h51
                          refine zw_push zr_204_40 ?_
                          refine zw_R zr_204_42 (by decide) zm_204 (v := (0, (-2))) rfl ?_
                          rw [← hQ]; exact ⟨_, rfl, by omega, by omega, hI0, hF0, by omega, by rw [hG70]; first | exact (if_neg (by omega)).symm | exact (if_pos (by omega)).symm⟩
                      · intro h54
                        refine zw_push zr_140_13 ?_
                        refine zw_42 zr_140_14 ?_
                        refine zw_R zr_140_18 (by decide) zm_140 (v := (0, 1)) (zRetB (by omega)) ?_
                        rw [← hQ1]
                        show zW E (d) 204 37 [(2, 69), (0, a0), (0, a1), (0, a2), (0, a3)] [(0, 1)] m0 Q
                        refine zw_40_4 zr_204_37 ?_ ?_
                        · intro h55
                          refine zw_7 zr_204_43 rfl ?_
                          refine zw_46r (s := 70) zr_204_44 rfl rfl rfl rfl ?_
                          refine zw_push zr_204_47 ?_
                          refine zw_push zr_204_49 ?_
                          refine zw_3 zr_204_51 rfl ?_
                          refine zw_18 zr_204_52 (by omega) ?_
                          refine zw_16 zr_204_53 (by omega) ?_
                          refine zw_push zr_204_54 ?_
                          refine zw_3 zr_204_55 rfl ?_
                          refine zw_18 zr_204_56 (by omega) ?_
                          refine zw_16 zr_204_57 (by omega) ?_
                          refine zw_3 zr_204_58 rfl ?_
                          refine zw_49 (c := 70) (len := 826) zr_204_59 rfl rfl (by omega) (by omega) ?_
                          intro m56 em56
                          have hIm56 : zInv m56 := by rw [em56]; exact iu_70_moves hI0 (by omega) (by omega)
                          have hFm56 : zFr W_204 m0 m56 := by rw [em56]; exact hF0.any rfl
                          have km56_70_822 : m56 70 822 = g0 := by rw [em56, zUp_ne (by omega)]; exact hg0
                          have fm56_70 : m56 70 = zPt F70 ((((10 + (8 * a0)) + (2 * a1))).toNat) a2 := by rw [em56]; exact (zUp_ff (m := m0)).trans (congrArg (fun q => zPt q ((((10 + (8 * a0)) + (2 * a1))).toNat) a2) hG70)
                          clear em56
                          refine zw_7 zr_204_60 rfl ?_
                          refine zw_46r (s := 70) zr_204_61 rfl rfl rfl rfl ?_
                          refine zw_push zr_204_64 ?_
                          refine zw_push zr_204_66 ?_
                          refine zw_3 zr_204_68 rfl ?_
                          refine zw_18 zr_204_69 (by omega) ?_
                          refine zw_16 zr_204_70 (by omega) ?_
                          refine zw_push zr_204_71 ?_
                          refine zw_3 zr_204_72 rfl ?_
                          refine zw_18 zr_204_73 (by omega) ?_
                          refine zw_16 zr_204_74 (by omega) ?_
                          refine zw_push zr_204_75 ?_
                          refine zw_16 zr_204_76 (by omega) ?_
                          refine zw_4 zr_204_77 rfl ?_
                          refine zw_49 (c := 70) (len := 826) zr_204_79 rfl rfl (by omega) (by omega) ?_
                          intro m57 em57
                          have hIm57 : zInv m57 := by rw [em57]; exact iu_70_moves hIm56 (by omega) (by omega)
                          have hFm57 : zFr W_204 m0 m57 := by rw [em57]; exact hFm56.any rfl
                          have km57_70_822 : m57 70 822 = g0 := by rw [em57, zUp_ne (by omega)]; exact km56_70_822
                          have fm57_70 : m57 70 = zPt (zPt F70 ((((10 + (8 * a0)) + (2 * a1))).toNat) a2) (((((10 + (8 * a0)) + (2 * a1)) + 1)).toNat) a3 := by rw [em57]; exact (zUp_ff (m := m56)).trans (congrArg (fun q => zPt q (((((10 + (8 * a0)) + (2 * a1)) + 1)).toNat) a3) fm56_70)
                          clear em57
                          refine zw_push zr_204_80 ?_
                          refine zw_R zr_204_81 (by decide) zm_204 (v := (0, 1)) rfl ?_
                          rw [← hQ]; exact ⟨_, rfl, by omega, by omega, hIm57, hFm57, by omega, by rw [fm57_70]; first | exact (if_neg (by omega)).symm | exact (if_pos (by omega)).symm⟩
                        · intro h60; omega
