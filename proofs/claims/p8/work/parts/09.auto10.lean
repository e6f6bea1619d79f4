abbrev W_189 : List (Nat × Nat) := [(81, 1000)]
set_option maxHeartbeats 8000000 in
theorem th_189 {E : zE} {d : Nat} {m0 : zM} {a0 : Int} (hd : 4 ≤ d) (hI0 : zInv m0) (ha0 : 0 ≤ a0 ∧ a0 ≤ 9) : zC E d 189 [(2, 69), (0, a0)] m0 (fun v m' => ∃ r : Int, v = (0, r) ∧ 0 ≤ r ∧ r ≤ 9 ∧ zInv m' ∧ zFr W_189 m0 m') := by
  have hF0 : zFr W_189 m0 m0 := zFr.rfl
  generalize hQ : (fun (v : zV) (m' : zM) => ∃ r : Int, v = (0, r) ∧ 0 ≤ r ∧ r ≤ 9 ∧ zInv m' ∧ zFr W_189 m0 m') = Q
  show zW E d 189 0 [(2, 69), (0, a0), (9, 0)] [] m0 Q
  refine zw_7 zr_189_0 rfl ?_
  refine zw_3 zr_189_1 rfl ?_
  refine zw_push zr_189_2 ?_
  refine zw_C zr_189_3 (Or.inl rfl) zm_188 rfl rfl ⟨Nat.le_of_ble_eq_true rfl, Nat.le_of_ble_eq_true rfl, Nat.le_of_ble_eq_true rfl, rfl, by decide⟩ (by omega) (th_188 (d := d - 1) (by omega) hI0 (a0 := a0) (a1 := (-1))      (by omega) (by omega) ) ?_
  rintro _ m1 ⟨rfl, hIm1, gm1, po0_m1⟩
  have hFm1 : zFr W_189 m0 m1 := hF0.trans gm1 rfl
  show zW E (d) 189 6 [(2, 69), (0, a0), (9, 0)] [] m1 Q
  refine zw_push zr_189_6 ?_
  refine zw_9 (L' := [(2, 69), (0, a0), (0, 0)]) zr_189_7 (Nat.le_of_ble_eq_true rfl) rfl ?_
  have lp8_3 : ∀ (nlp8_3 : Nat) (i2 : Int), 0 ≤ i2 → i2 ≤ 9 → (i2 ≤ a0) → (10 - i2).toNat < nlp8_3 → zW E (d) 189 8 [(2, 69), (0, a0), (0, i2)] [] m1 Q := by
    intro nlp8_3
    induction nlp8_3 with
    | zero =>
      intros
      exact absurd (by assumption : _ < 0) (Nat.not_lt_zero _)
    | succ nlp8_3 ihlp8_3 =>
      intro i2 li2 ui2 hv0lp8_3 hmlp8_3
      refine zw_7 zr_189_8 rfl ?_
      refine zw_46r (s := 81) zr_189_9 rfl rfl rfl rfl ?_
      refine zw_3 zr_189_12 rfl ?_
      refine zw_48 (c := 81) (len := 10) zr_189_13 rfl rfl (by omega) (by omega) ?_
      intro x5 ex5
      have bx5 := ib_81 hIm1 (k := (i2).toNat) (by omega)
      rw [← ex5] at bx5
      have wx5 := zcg (m1 81) (i2).toNat (a0.toNat)
      refine zw_push zr_189_14 ?_
      refine zw_41_0 zr_189_16 ?_ ?_
      · intro h6
        refine zw_3 zr_189_25 rfl ?_
        refine zw_R zr_189_26 (by decide) zm_189 (v := (0, i2)) rfl ?_
        rw [← hQ]; exact ⟨_, rfl, by omega, by omega, hIm1, hFm1⟩
      · intro h7
        refine zw_15 (c := 1) (L' := [(2, 69), (0, a0), (0, (i2 + 1))]) zr_189_19 rfl (by decide) (by omega) rfl ?_
        refine zw_42 zr_189_22 ?_
        exact zw_less (L := [(2, 69), (0, a0), (0, (i2 + 1))]) ⟨Or.inr rfl, Or.inr rfl, Or.inr rfl, trivial⟩ (ihlp8_3 ((i2 + 1))  (by omega) (by omega) (by omega) (by omega))
  exact lp8_3 _ (0)  (by omega) (by omega) (by omega) (Nat.lt_succ_self _)

abbrev W_190 : List (Nat × Nat) := [(81, 1000)]
set_option maxHeartbeats 8000000 in
theorem th_190 {E : zE} {d : Nat} {m0 : zM} {a0 : Int} (hd : 5 ≤ d) (hI0 : zInv m0) (ha0 : (-2147483648) ≤ a0 ∧ a0 ≤ 2147483647) : zC E d 190 [(2, 69), (0, a0)] m0 (fun v m' => ∃ r : Int, v = (0, r) ∧ (-2147483648) ≤ r ∧ r ≤ 2147483647 ∧ zInv m' ∧ zFr W_190 m0 m') := by
  have hF0 : zFr W_190 m0 m0 := zFr.rfl
  generalize hQ : (fun (v : zV) (m' : zM) => ∃ r : Int, v = (0, r) ∧ (-2147483648) ≤ r ∧ r ≤ 2147483647 ∧ zInv m' ∧ zFr W_190 m0 m') = Q
  show zW E d 190 0 [(2, 69), (0, a0), (9, 0), (9, 0)] [] m0 Q
  refine zw_3 zr_190_0 rfl ?_
  refine zw_push zr_190_1 ?_
  refine zw_41_1 zr_190_2 ?_ ?_
  · intro h1
    refine zw_3 zr_190_16 rfl ?_
    refine zw_push zr_190_17 ?_
    refine zw_41_1 zr_190_18 ?_ ?_
    · intro h2
      refine zw_push zr_190_27 ?_
      refine zw_9 (L' := [(2, 69), (0, a0), (0, 0), (9, 0)]) zr_190_28 (Nat.le_of_ble_eq_true rfl) rfl ?_
      refine zw_push zr_190_29 ?_
      refine zw_9 (L' := [(2, 69), (0, a0), (0, 0), (0, 0)]) zr_190_30 (Nat.le_of_ble_eq_true rfl) rfl ?_
      have lp31_6 : ∀ (nlp31_6 : Nat) (i3 i4 : Int) (m5 : zM), zInv m5 → zFr W_190 m0 m5 → (-2147483648) ≤ i3 → i3 ≤ 2147483647 → 0 ≤ i4 → i4 ≤ 10 → (10 - i4).toNat < nlp31_6 → zW E (d) 190 31 [(2, 69), (0, a0), (0, i3), (0, i4)] [] m5 Q := by
        intro nlp31_6
        induction nlp31_6 with
        | zero =>
          intros
          exact absurd (by assumption : _ < 0) (Nat.not_lt_zero _)
        | succ nlp31_6 ihlp31_6 =>
          intro i3 i4 m5 hIm5 hFm5 li3 ui3 li4 ui4 hmlp31_6
          refine zw_3 zr_190_31 rfl ?_
          refine zw_7 zr_190_32 rfl ?_
          refine zw_C zr_190_33 (Or.inl rfl) zm_141 rfl rfl ⟨Nat.le_of_ble_eq_true rfl, Nat.le_of_ble_eq_true rfl, Nat.le_of_ble_eq_true rfl, rfl, by decide⟩ (by omega) (P := (fun v m' => zW E (d) 190 36 [(2, 69), (0, a0), (0, i3), (0, i4)] (if v.1 = 9 then [(0, i4)] else v :: [(0, i4)]) m' Q)) ?_ (fun _ _ h => h)
          generalize hQ1 : (fun v m' => zW E (d) 190 36 [(2, 69), (0, a0), (0, i3), (0, i4)] (if v.1 = 9 then [(0, i4)] else v :: [(0, i4)]) m' Q) = Q1
          show zW E (d - 1) 141 0 [(2, 69)] [] m5 Q1
          refine zw_7 zr_141_0 rfl ?_
          refine zw_46r (s := 70) zr_141_1 rfl rfl rfl rfl ?_
          refine zw_push zr_141_4 ?_
          obtain ⟨f8, ef8⟩ : ∃ v, m5 70 822 = v := ⟨_, rfl⟩
          have bf8 : 0 ≤ m5 70 822 ∧ m5 70 822 ≤ 10 := ib_70_players hIm5 (by omega)
          rw [ef8] at bf8
          refine zw_48k (c := 70) (len := 826) zr_141_7 rfl rfl (by omega) (by omega) (show (822 : Int).toNat = 822 by omega) ef8 ?_
          refine zw_R zr_141_8 (by decide) zm_141 (v := (0, f8)) rfl ?_
          rw [← hQ1]
          show zW E (d) 190 36 [(2, 69), (0, a0), (0, i3), (0, i4)] [(0, f8), (0, i4)] m5 Q
          refine zw_41_3 zr_190_36 ?_ ?_
          · intro h9
            refine zw_3 zr_190_62 rfl ?_
            refine zw_R zr_190_63 (by decide) zm_190 (v := (0, i3)) rfl ?_
            rw [← hQ]; exact ⟨_, rfl, by omega, by omega, hIm5, hFm5⟩
          · intro h10
            refine zw_3 zr_190_39 rfl ?_
            refine zw_7 zr_190_40 rfl ?_
            refine zw_3 zr_190_41 rfl ?_
            refine zw_C zr_190_42 (Or.inl rfl) zm_189 rfl rfl ⟨Nat.le_of_ble_eq_true rfl, Nat.le_of_ble_eq_true rfl, Nat.le_of_ble_eq_true rfl, rfl, by decide⟩ (by omega) (th_189 (d := d - 1) (by omega) hIm5 (a0 := i4)      (by omega) ) ?_
            rintro _ m11 ⟨r12, rfl, hr12a, hr12b, hIm11, gm11⟩
            have hFm11 : zFr W_190 m0 m11 := hFm5.trans gm11 rfl
            have km11_70_822 : m11 70 822 = f8 := (gm11 70 822 rfl).trans ef8
            show zW E (d) 190 45 [(2, 69), (0, a0), (0, i3), (0, i4)] [(0, r12), (0, i3)] m11 Q
            refine zw_3 zr_190_45 rfl ?_
            refine zw_41_4 zr_190_46 ?_ ?_
            · intro h13
              refine zw_push zr_190_53 ?_
              refine zw_16 zr_190_54 (by omega) ?_
              refine zw_9 (L' := [(2, 69), (0, a0), (0, (i3 + 0)), (0, i4)]) zr_190_55 (Nat.le_of_ble_eq_true rfl) rfl ?_
              refine zw_15 (c := 1) (L' := [(2, 69), (0, a0), (0, (i3 + 0)), (0, (i4 + 1))]) zr_190_56 rfl (by decide) (by omega) rfl ?_
              refine zw_42 zr_190_59 ?_
              exact zw_less (L := [(2, 69), (0, a0), (0, (i3 + 0)), (0, (i4 + 1))]) ⟨Or.inr rfl, Or.inr rfl, Or.inr rfl, Or.inr rfl, trivial⟩ (ihlp31_6 ((i3 + 0)) ((i4 + 1)) m11 hIm11 hFm11   (by omega) (by omega) (by omega) (by omega)  (by omega))
            · intro h14
              refine zw_push zr_190_49 ?_
              refine zw_42 zr_190_50 ?_
              refine zw_16h zr_190_54 ?_
              intro x15 hx15a hx15b
              refine zw_9 (L' := [(2, 69), (0, a0), (0, x15), (0, i4)]) zr_190_55 (Nat.le_of_ble_eq_true rfl) rfl ?_
              refine zw_15 (c := 1) (L' := [(2, 69), (0, a0), (0, x15), (0, (i4 + 1))]) zr_190_56 rfl (by decide) (by omega) rfl ?_
              refine zw_42 zr_190_59 ?_
              exact zw_less (L := [(2, 69), (0, a0), (0, x15), (0, (i4 + 1))]) ⟨Or.inr rfl, Or.inr rfl, Or.inr rfl, Or.inr rfl, trivial⟩ (ihlp31_6 (x15) ((i4 + 1)) m11 hIm11 hFm11   (by omega) (by omega) (by omega) (by omega)  (by omega))
      exact lp31_6 _ (0) (0) m0 hI0 hF0   (by omega) (by omega) (by omega) (by omega)  (Nat.lt_succ_self _)
    · intro h16; omega
  · intro h17
    refine zw_7 zr_190_5 rfl ?_
    refine zw_3 zr_190_6 rfl ?_
    refine zw_C zr_190_7 (Or.inl rfl) zm_143 rfl rfl ⟨Nat.le_of_ble_eq_true rfl, Nat.le_of_ble_eq_true rfl, Nat.le_of_ble_eq_true rfl, rfl, by decide⟩ (by omega) (P := (fun v m' => zW E (d) 190 10 [(2, 69), (0, a0), (9, 0), (9, 0)] (if v.1 = 9 then [] else v :: []) m' Q)) ?_ (fun _ _ h => h)
    generalize hQ1 : (fun v m' => zW E (d) 190 10 [(2, 69), (0, a0), (9, 0), (9, 0)] (if v.1 = 9 then [] else v :: []) m' Q) = Q1
    show zW E (d - 1) 143 0 [(2, 69), (0, a0)] [] m0 Q1
    refine zw_3 zr_143_0 rfl ?_
    refine zw_36 zr_143_1 ?_
    refine zw_push zr_143_2 ?_
    refine zw_7 zr_143_3 rfl ?_
    refine zw_C zr_143_4 (Or.inl rfl) zm_141 rfl rfl ⟨Nat.le_of_ble_eq_true rfl, Nat.le_of_ble_eq_true rfl, Nat.le_of_ble_eq_true rfl, rfl, by decide⟩ (by omega) (P := (fun v m' => zW E (d - 1) 143 7 [(2, 69), (0, a0)] (if v.1 = 9 then [(1, 0), (1, a0)] else v :: [(1, 0), (1, a0)]) m' Q1)) ?_ (fun _ _ h => h)
    generalize hQ2 : (fun v m' => zW E (d - 1) 143 7 [(2, 69), (0, a0)] (if v.1 = 9 then [(1, 0), (1, a0)] else v :: [(1, 0), (1, a0)]) m' Q1) = Q2
    show zW E (d - 1 - 1) 141 0 [(2, 69)] [] m0 Q2
    refine zw_7 zr_141_0 rfl ?_
    refine zw_46r (s := 70) zr_141_1 rfl rfl rfl rfl ?_
    refine zw_push zr_141_4 ?_
    obtain ⟨f18, ef18⟩ : ∃ v, m0 70 822 = v := ⟨_, rfl⟩
    have bf18 : 0 ≤ m0 70 822 ∧ m0 70 822 ≤ 10 := ib_70_players hI0 (by omega)
    rw [ef18] at bf18
    refine zw_48k (c := 70) (len := 826) zr_141_7 rfl rfl (by omega) (by omega) (show (822 : Int).toNat = 822 by omega) ef18 ?_
    refine zw_R zr_141_8 (by decide) zm_141 (v := (0, f18)) rfl ?_
    rw [← hQ2]
    show zW E (d - 1) 143 7 [(2, 69), (0, a0)] [(0, f18), (1, 0), (1, a0)] m0 Q1
    refine zw_push zr_143_7 ?_
    refine zw_17 zr_143_8 (by omega) ?_
    refine zw_36 zr_143_9 ?_
    refine zw_C zr_143_10 (Or.inr rfl) zm_140 rfl rfl ⟨Nat.le_of_ble_eq_true rfl, Nat.le_of_ble_eq_true rfl, Nat.le_of_ble_eq_true rfl, rfl, by decide⟩ (by omega) (P := (fun v m' => zW E (d - 1) 143 13 [(2, 69), (0, a0)] (if v.1 = 9 then [] else v :: []) m' Q1)) ?_ (fun _ _ h => h)
    generalize hQ2 : (fun v m' => zW E (d - 1) 143 13 [(2, 69), (0, a0)] (if v.1 = 9 then [] else v :: []) m' Q1) = Q2
    show zW E (d - 1 - 1) 140 0 [(1, a0), (9, 0), (1, 0), (9, 0), (1, (f18 - 1)), (9, 0)] [] m0 Q2
    refine zw_5 zr_140_0 rfl ?_
    refine zw_5 zr_140_1 rfl ?_
    refine zw_39_0 zr_140_2 zr_140_3 ?_ ?_
    · intro h19
      refine zw_push zr_140_17 ?_
      refine zw_R zr_140_18 (by decide) zm_140 (v := (0, 0)) (zRetB (by omega)) ?_
      rw [← hQ2]
      show zW E (d - 1) 143 13 [(2, 69), (0, a0)] [(0, 0)] m0 Q1
      refine zw_R zr_143_13 (by decide) zm_143 (v := (0, 0)) (zRetB (by omega)) ?_
      rw [← hQ1]
      show zW E (d) 190 10 [(2, 69), (0, a0), (9, 0), (9, 0)] [(0, 0)] m0 Q
      refine zw_40_4 zr_190_10 ?_ ?_
      · intro h20; omega
      · intro h21
        refine zw_push zr_190_13 ?_
        refine zw_R zr_190_15 (by decide) zm_190 (v := (0, (-2))) rfl ?_
        rw [← hQ]; exact ⟨_, rfl, by omega, by omega, hI0, hF0⟩
    · intro h22
      refine zw_5 zr_140_6 rfl ?_
      refine zw_6 zr_140_7 rfl ?_
      refine zw_39_2 zr_140_9 zr_140_10 ?_ ?_
      · intro h23
        refine zw_push zr_140_17 ?_
        refine zw_R zr_140_18 (by decide) zm_140 (v := (0, 0)) (zRetB (by omega)) ?_
        rw [← hQ2]
        show zW E (d - 1) 143 13 [(2, 69), (0, a0)] [(0, 0)] m0 Q1
        refine zw_R zr_143_13 (by decide) zm_143 (v := (0, 0)) (zRetB (by omega)) ?_
        rw [← hQ1]
        show zW E (d) 190 10 [(2, 69), (0, a0), (9, 0), (9, 0)] [(0, 0)] m0 Q
        refine zw_40_4 zr_190_10 ?_ ?_
        · intro h24; omega
        · intro h25
          refine zw_push zr_190_13 ?_
          refine zw_R zr_190_15 (by decide) zm_190 (v := (0, (-2))) rfl ?_
          rw [← hQ]; exact ⟨_, rfl, by omega, by omega, hI0, hF0⟩
      · intro h26
        refine zw_push zr_140_13 ?_
        refine zw_42 zr_140_14 ?_
        refine zw_R zr_140_18 (by decide) zm_140 (v := (0, 1)) (zRetB (by omega)) ?_
        rw [← hQ2]
        show zW E (d - 1) 143 13 [(2, 69), (0, a0)] [(0, 1)] m0 Q1
        refine zw_R zr_143_13 (by decide) zm_143 (v := (0, 1)) (zRetB (by omega)) ?_
        rw [← hQ1]
        show zW E (d) 190 10 [(2, 69), (0, a0), (9, 0), (9, 0)] [(0, 1)] m0 Q
        refine zw_40_4 zr_190_10 ?_ ?_
        · intro h27
          refine zw_3 zr_190_16 rfl ?_
          refine zw_push zr_190_17 ?_
          refine zw_41_1 zr_190_18 ?_ ?_
          · intro h28; omega
          · intro h29
            refine zw_7 zr_190_21 rfl ?_
            refine zw_3 zr_190_22 rfl ?_
            refine zw_C zr_190_23 (Or.inl rfl) zm_189 rfl rfl ⟨Nat.le_of_ble_eq_true rfl, Nat.le_of_ble_eq_true rfl, Nat.le_of_ble_eq_true rfl, rfl, by decide⟩ (by omega) (th_189 (d := d - 1) (by omega) hI0 (a0 := a0)      (by omega) ) ?_
            rintro _ m30 ⟨r31, rfl, hr31a, hr31b, hIm30, gm30⟩
            have hFm30 : zFr W_190 m0 m30 := hF0.trans gm30 rfl
            have km30_70_822 : m30 70 822 = f18 := (gm30 70 822 rfl).trans ef18
            show zW E (d) 190 26 [(2, 69), (0, a0), (9, 0), (9, 0)] [(0, r31)] m30 Q
            refine zw_R zr_190_26 (by decide) zm_190 (v := (0, r31)) rfl ?_
            rw [← hQ]; exact ⟨_, rfl, by omega, by omega, hIm30, hFm30⟩
        · intro h32; omega

abbrev W_72 : List (Nat × Nat) := [(61, 1000), (62, 1000)]
set_option maxHeartbeats 8000000 in
theorem th_72 {E : zE} {d : Nat} {m0 : zM} {a0 : Int} {a1 : Int} (hd : 4 ≤ d) (hI0 : zInv m0) (ha0 : 0 ≤ a0 ∧ a0 ≤ 9) (ha1 : 0 ≤ a1 ∧ a1 ≤ 9) : zC E d 72 [(2, 60), (0, a0), (0, a1)] m0 (fun v m' => ∃ r : Int, v = (0, r) ∧ (-2147483648) ≤ r ∧ r ≤ 2147483647 ∧ zInv m' ∧ zFr W_72 m0 m') := by
  have hF0 : zFr W_72 m0 m0 := zFr.rfl
  generalize hQ : (fun (v : zV) (m' : zM) => ∃ r : Int, v = (0, r) ∧ (-2147483648) ≤ r ∧ r ≤ 2147483647 ∧ zInv m' ∧ zFr W_72 m0 m') = Q
  show zW E d 72 0 [(2, 60), (0, a0), (0, a1)] [] m0 Q
  refine zw_7 zr_72_0 rfl ?_
  refine zw_3 zr_72_1 rfl ?_
  refine zw_3 zr_72_2 rfl ?_
  refine zw_C zr_72_3 (Or.inl rfl) zm_68 rfl rfl ⟨Nat.le_of_ble_eq_true rfl, Nat.le_of_ble_eq_true rfl, Nat.le_of_ble_eq_true rfl, rfl, by decide⟩ (by omega) (th_68 (d := d - 1) (by omega) hI0 (a0 := a0) (a1 := a1)      (by omega) (by omega) ) ?_
  rintro _ m1 ⟨r2, rfl, hr2a, hr2b, hIm1, gm1⟩
  have hFm1 : zFr W_72 m0 m1 := hF0.trans gm1 rfl
  show zW E (d) 72 6 [(2, 60), (0, a0), (0, a1)] [(0, r2)] m1 Q
  refine zw_40_1 zr_72_6 ?_ ?_
  · intro h3
    refine zw_push zr_72_18 ?_
    refine zw_R zr_72_20 (by decide) zm_72 (v := (0, (-5))) rfl ?_
    rw [← hQ]; exact ⟨_, rfl, by omega, by omega, hIm1, hFm1⟩
  · intro h4
    refine zw_7 zr_72_9 rfl ?_
    refine zw_46r (s := 62) zr_72_10 rfl rfl rfl rfl ?_
    refine zw_3 zr_72_13 rfl ?_
    refine zw_48 (c := 62) (len := 10) zr_72_14 rfl rfl (by omega) (by omega) ?_
    intro x5 ex5
    have bx5 := hIm1.ra (c := 62) (len := 10) (k := (a0).toNat) rfl (by omega)
    rw [← ex5] at bx5
    clear ex5
    refine zw_42 zr_72_15 ?_
    refine zw_R zr_72_20 (by decide) zm_72 (v := (0, x5)) rfl ?_
    rw [← hQ]; exact ⟨_, rfl, by omega, by omega, hIm1, hFm1⟩

set_option maxHeartbeats 8000000 in
theorem th_73 {E : zE} {d : Nat} {m0 : zM} {a0 : Int} (hd : 1 ≤ d) (hI0 : zInv m0) (ha0 : 0 ≤ a0 ∧ a0 ≤ 9) : zC E d 73 [(2, 60), (0, a0)] m0 (fun v m' => ∃ r : Int, v = (0, r) ∧ 0 ≤ r ∧ r ≤ 9 ∧ m0 = m') := by
  generalize hQ : (fun (v : zV) (m' : zM) => ∃ r : Int, v = (0, r) ∧ 0 ≤ r ∧ r ≤ 9 ∧ m0 = m') = Q
  show zW E d 73 0 [(2, 60), (0, a0), (9, 0)] [] m0 Q
  refine zw_push zr_73_0 ?_
  refine zw_9 (L' := [(2, 60), (0, a0), (0, 0)]) zr_73_1 (Nat.le_of_ble_eq_true rfl) rfl ?_
  have lp2_2 : ∀ (nlp2_2 : Nat) (i1 : Int), 0 ≤ i1 → i1 ≤ 10 → (10 - i1).toNat < nlp2_2 → zW E (d) 73 2 [(2, 60), (0, a0), (0, i1)] [] m0 Q := by
    intro nlp2_2
    induction nlp2_2 with
    | zero =>
      intros
      exact absurd (by assumption : _ < 0) (Nat.not_lt_zero _)
    | succ nlp2_2 ihlp2_2 =>
      intro i1 li1 ui1 hmlp2_2
      refine zw_3 zr_73_2 rfl ?_
      refine zw_7 zr_73_3 rfl ?_
      refine zw_46r (s := 1) zr_73_4 rfl rfl rfl rfl ?_
      obtain ⟨f4, ef4⟩ : ∃ v, m0 1 0 = v := ⟨_, rfl⟩
      have bf4 := ib_1_0 hI0
      rw [ef4] at bf4
      refine zw_46i zr_73_7 ef4 rfl rfl rfl ?_
      refine zw_41_3 zr_73_10 ?_ ?_
      · intro h5
        refine zw_3 zr_73_51 rfl ?_
        refine zw_R zr_73_52 (by decide) zm_73 (v := (0, a0)) rfl ?_
        rw [← hQ]; exact ⟨_, rfl, by omega, by omega, rfl⟩
      · intro h6
        refine zw_7 zr_73_13 rfl ?_
        refine zw_46r (s := 61) zr_73_14 rfl rfl rfl rfl ?_
        refine zw_3 zr_73_17 rfl ?_
        refine zw_48 (c := 61) (len := 10) zr_73_18 rfl rfl (by omega) (by omega) ?_
        intro x7 ex7
        have bx7 := hI0.ra (c := 61) (len := 10) (k := (a0).toNat) rfl (by omega)
        rw [← ex7] at bx7
        clear ex7
        refine zw_3 zr_73_19 rfl ?_
        refine zw_25h zr_73_20 ?_
        intro x8 hx8a hx8b
        refine zw_push zr_73_21 ?_
        refine zw_21m zr_73_22 (by omega) (by omega) ?_
        intro x9 hx9a hx9b
        refine zw_40_1 zr_73_23 ?_ ?_
        · intro h10
          refine zw_15 (c := 1) (L' := [(2, 60), (0, a0), (0, (i1 + 1))]) zr_73_45 rfl (by decide) (by omega) rfl ?_
          refine zw_42 zr_73_48 ?_
          exact zw_less (L := [(2, 60), (0, a0), (0, (i1 + 1))]) ⟨Or.inr rfl, Or.inr rfl, Or.inr rfl, trivial⟩ (ihlp2_2 ((i1 + 1))  (by omega) (by omega)  (by omega))
        · intro h11
          refine zw_7 zr_73_26 rfl ?_
          refine zw_46r (s := 62) zr_73_27 rfl rfl rfl rfl ?_
          refine zw_3 zr_73_30 rfl ?_
          refine zw_48 (c := 62) (len := 10) zr_73_31 rfl rfl (by omega) (by omega) ?_
          intro x12 ex12
          have bx12 := hI0.ra (c := 62) (len := 10) (k := (i1).toNat) rfl (by omega)
          rw [← ex12] at bx12
          clear ex12
          refine zw_7 zr_73_32 rfl ?_
          refine zw_46r (s := 62) zr_73_33 rfl rfl rfl rfl ?_
          refine zw_3 zr_73_36 rfl ?_
          refine zw_48 (c := 62) (len := 10) zr_73_37 rfl rfl (by omega) (by omega) ?_
          intro x13 ex13
          have bx13 := hI0.ra (c := 62) (len := 10) (k := (a0).toNat) rfl (by omega)
          rw [← ex13] at bx13
          clear ex13
          refine zw_push zr_73_38 ?_
          refine zw_17h zr_73_39 ?_
          intro x14 hx14a hx14b
          refine zw_41_4 zr_73_40 ?_ ?_
          · intro h15
            refine zw_15 (c := 1) (L' := [(2, 60), (0, a0), (0, (i1 + 1))]) zr_73_45 rfl (by decide) (by omega) rfl ?_
            refine zw_42 zr_73_48 ?_
            exact zw_less (L := [(2, 60), (0, a0), (0, (i1 + 1))]) ⟨Or.inr rfl, Or.inr rfl, Or.inr rfl, trivial⟩ (ihlp2_2 ((i1 + 1))  (by omega) (by omega)  (by omega))
          · intro h16
            refine zw_3 zr_73_43 rfl ?_
            refine zw_R zr_73_44 (by decide) zm_73 (v := (0, i1)) rfl ?_
            rw [← hQ]; exact ⟨_, rfl, by omega, by omega, rfl⟩
  exact lp2_2 _ (0)  (by omega) (by omega)  (Nat.lt_succ_self _)

set_option maxHeartbeats 8000000 in
theorem th_74 {E : zE} {d : Nat} {m0 : zM} {a0 : Int} {a1 : Int} (hd : 2 ≤ d) (hI0 : zInv m0) (ha0 : 0 ≤ a0 ∧ a0 ≤ 9) (ha1 : 0 ≤ a1 ∧ a1 ≤ 9) : zC E d 74 [(2, 60), (0, a0), (0, a1)] m0 (fun v m' => ∃ r : Int, v = (0, r) ∧ (-5) ≤ r ∧ r ≤ 59 ∧ m0 = m') := by
  generalize hQ : (fun (v : zV) (m' : zM) => ∃ r : Int, v = (0, r) ∧ (-5) ≤ r ∧ r ≤ 59 ∧ m0 = m') = Q
  show zW E d 74 0 [(2, 60), (0, a0), (0, a1), (9, 0), (9, 0), (9, 0)] [] m0 Q
  refine zw_7 zr_74_0 rfl ?_
  refine zw_46r (s := 1) zr_74_1 rfl rfl rfl rfl ?_
  refine zw_C zr_74_4 (Or.inl rfl) zm_53 rfl rfl ⟨Nat.le_of_ble_eq_true rfl, Nat.le_of_ble_eq_true rfl, Nat.le_of_ble_eq_true rfl, rfl, by decide⟩ (by omega) (th_53 (d := d - 1) (by omega) hI0        ) ?_
  rintro _ _ ⟨r1, rfl, hr1a, hr1b, rfl⟩
  show zW E (d) 74 7 [(2, 60), (0, a0), (0, a1), (9, 0), (9, 0), (9, 0)] [(1, r1)] m0 Q
  refine zw_13 (L' := [(2, 60), (0, a0), (0, a1), (1, r1), (9, 0), (9, 0)]) zr_74_7 (Nat.le_of_ble_eq_true rfl) rfl ?_
  refine zw_push zr_74_8 ?_
  refine zw_10 (L' := [(2, 60), (0, a0), (0, a1), (1, r1), (9, 0), (0, 0)]) zr_74_9 (Nat.le_of_ble_eq_true rfl) rfl ?_
  have lp11_3 : ∀ (nlp11_3 : Nat) (i2 : Int), 0 ≤ i2 → i2 ≤ 60 → (60 - i2).toNat < nlp11_3 → zW E (d) 74 11 [(2, 60), (0, a0), (0, a1), (1, r1), (9, 0), (0, i2)] [] m0 Q := by
    intro nlp11_3
    induction nlp11_3 with
    | zero =>
      intros
      exact absurd (by assumption : _ < 0) (Nat.not_lt_zero _)
    | succ nlp11_3 ihlp11_3 =>
      intro i2 li2 ui2 hmlp11_3
      refine zw_4 zr_74_11 rfl ?_
      refine zw_7 zr_74_13 rfl ?_
      refine zw_46r (s := 1) zr_74_14 rfl rfl rfl rfl ?_
      obtain ⟨f5, ef5⟩ : ∃ v, m0 1 1 = v := ⟨_, rfl⟩
      have bf5 := ib_1_1 hI0
      rw [ef5] at bf5
      refine zw_46i zr_74_17 ef5 rfl rfl rfl ?_
      refine zw_41_3 zr_74_20 ?_ ?_
      · intro h6
        refine zw_push zr_74_69 ?_
        refine zw_R zr_74_71 (by decide) zm_74 (v := (0, (-5))) rfl ?_
        rw [← hQ]; exact ⟨_, rfl, by omega, by omega, rfl⟩
      · intro h7
        refine zw_5 zr_74_23 rfl ?_
        refine zw_4 zr_74_24 rfl ?_
        refine zw_34h zr_74_26 ?_
        intro x8 hx8a hx8b
        refine zw_push zr_74_27 ?_
        refine zw_30h zr_74_28 ?_
        intro x9 hx9a hx9b
        refine zw_push zr_74_29 ?_
        refine zw_39_1 zr_74_30 zr_74_31 ?_ ?_
        · intro h10
          refine zw_15 (c := 1) (L' := [(2, 60), (0, a0), (0, a1), (1, r1), (9, 0), (0, (i2 + 1))]) zr_74_63 rfl (by decide) (by omega) rfl ?_
          refine zw_42 zr_74_66 ?_
          exact zw_less (L := [(2, 60), (0, a0), (0, a1), (1, r1), (9, 0), (0, (i2 + 1))]) ⟨Or.inr rfl, Or.inr rfl, Or.inr rfl, Or.inr rfl, Or.inl rfl, Or.inr rfl, trivial⟩ (ihlp11_3 ((i2 + 1))  (by omega) (by omega)  (by omega))
        · intro h11
          refine zw_7 zr_74_34 rfl ?_
          refine zw_46r (s := 1) zr_74_35 rfl rfl rfl rfl ?_
          refine zw_4 zr_74_38 rfl ?_
          refine zw_3 zr_74_40 rfl ?_
          refine zw_C zr_74_41 (Or.inl rfl) zm_44 rfl rfl ⟨Nat.le_of_ble_eq_true rfl, Nat.le_of_ble_eq_true rfl, Nat.le_of_ble_eq_true rfl, rfl, by decide⟩ (by omega) (P := (fun v m' => zW E (d) 74 44 [(2, 60), (0, a0), (0, a1), (1, r1), (9, 0), (0, i2)] (if v.1 = 9 then [] else v :: []) m' Q)) ?_ (fun _ _ h => h)
          generalize hQ1 : (fun v m' => zW E (d) 74 44 [(2, 60), (0, a0), (0, a1), (1, r1), (9, 0), (0, i2)] (if v.1 = 9 then [] else v :: []) m' Q) = Q1
          show zW E (d - 1) 44 0 [(2, 1), (0, i2), (0, a0)] [] m0 Q1
          refine zw_7 zr_44_0 rfl ?_
          refine zw_46r (s := 6) zr_44_1 rfl rfl rfl rfl ?_
          refine zw_3 zr_44_4 rfl ?_
          refine zw_48 (c := 6) (len := 60) zr_44_5 rfl rfl (by omega) (by omega) ?_
          intro x12 ex12
          have bx12 := ib_6 hI0 (k := (i2).toNat) (by omega)
          rw [← ex12] at bx12
          refine zw_3 zr_44_6 rfl ?_
          refine zw_41_1 zr_44_7 ?_ ?_
          · intro h13
            refine zw_push zr_44_20 ?_
            refine zw_42 zr_44_21 ?_
            refine zw_R zr_44_25 (by decide) zm_44 (v := (0, 1)) (zRetB (by omega)) ?_
            rw [← hQ1]
            show zW E (d) 74 44 [(2, 60), (0, a0), (0, a1), (1, r1), (9, 0), (0, i2)] [(0, 1)] m0 Q
            refine zw_40_1 zr_74_44 ?_ ?_
            · intro h14; omega
            · intro h15
              refine zw_7 zr_74_47 rfl ?_
              refine zw_46r (s := 1) zr_74_48 rfl rfl rfl rfl ?_
              refine zw_4 zr_74_51 rfl ?_
              refine zw_3 zr_74_53 rfl ?_
              refine zw_C zr_74_54 (Or.inl rfl) zm_44 rfl rfl ⟨Nat.le_of_ble_eq_true rfl, Nat.le_of_ble_eq_true rfl, Nat.le_of_ble_eq_true rfl, rfl, by decide⟩ (by omega) (P := (fun v m' => zW E (d) 74 57 [(2, 60), (0, a0), (0, a1), (1, r1), (9, 0), (0, i2)] (if v.1 = 9 then [] else v :: []) m' Q)) ?_ (fun _ _ h => h)
              generalize hQ1 : (fun v m' => zW E (d) 74 57 [(2, 60), (0, a0), (0, a1), (1, r1), (9, 0), (0, i2)] (if v.1 = 9 then [] else v :: []) m' Q) = Q1
              show zW E (d - 1) 44 0 [(2, 1), (0, i2), (0, a1)] [] m0 Q1
              refine zw_7 zr_44_0 rfl ?_
              refine zw_46r (s := 6) zr_44_1 rfl rfl rfl rfl ?_
              refine zw_3 zr_44_4 rfl ?_
              refine zw_48k (c := 6) (len := 60) zr_44_5 rfl rfl (by omega) (by omega) rfl ex12.symm ?_
              refine zw_3 zr_44_6 rfl ?_
              refine zw_41_1 zr_44_7 ?_ ?_
              · intro h16
                refine zw_push zr_44_20 ?_
                refine zw_42 zr_44_21 ?_
                refine zw_R zr_44_25 (by decide) zm_44 (v := (0, 1)) (zRetB (by omega)) ?_
                rw [← hQ1]
                show zW E (d) 74 57 [(2, 60), (0, a0), (0, a1), (1, r1), (9, 0), (0, i2)] [(0, 1)] m0 Q
                refine zw_40_1 zr_74_57 ?_ ?_
                · intro h17; omega
                · intro h18
                  refine zw_4 zr_74_60 rfl ?_
                  refine zw_R zr_74_62 (by decide) zm_74 (v := (0, i2)) rfl ?_
                  rw [← hQ]; exact ⟨_, rfl, by omega, by omega, rfl⟩
              · intro h19
                refine zw_7 zr_44_10 rfl ?_
                refine zw_46r (s := 7) zr_44_11 rfl rfl rfl rfl ?_
                refine zw_3 zr_44_14 rfl ?_
                refine zw_48 (c := 7) (len := 60) zr_44_15 rfl rfl (by omega) (by omega) ?_
                intro x20 ex20
                have bx20 := ib_7 hI0 (k := (i2).toNat) (by omega)
                rw [← ex20] at bx20
                refine zw_3 zr_44_16 rfl ?_
                refine zw_41_4 zr_44_17 ?_ ?_
                · intro h21
                  refine zw_push zr_44_24 ?_
                  refine zw_R zr_44_25 (by decide) zm_44 (v := (0, 0)) (zRetB (by omega)) ?_
                  rw [← hQ1]
                  show zW E (d) 74 57 [(2, 60), (0, a0), (0, a1), (1, r1), (9, 0), (0, i2)] [(0, 0)] m0 Q
                  refine zw_40_1 zr_74_57 ?_ ?_
                  · intro h22
                    refine zw_15 (c := 1) (L' := [(2, 60), (0, a0), (0, a1), (1, r1), (9, 0), (0, (i2 + 1))]) zr_74_63 rfl (by decide) (by omega) rfl ?_
                    refine zw_42 zr_74_66 ?_
                    exact zw_less (L := [(2, 60), (0, a0), (0, a1), (1, r1), (9, 0), (0, (i2 + 1))]) ⟨Or.inr rfl, Or.inr rfl, Or.inr rfl, Or.inr rfl, Or.inl rfl, Or.inr rfl, trivial⟩ (ihlp11_3 ((i2 + 1))  (by omega) (by omega)  (by omega))
                  · intro h23; omega
                · intro h24
                  refine zw_push zr_44_20 ?_
                  refine zw_42 zr_44_21 ?_
                  refine zw_R zr_44_25 (by decide) zm_44 (v := (0, 1)) (zRetB (by omega)) ?_
                  rw [← hQ1]
                  show zW E (d) 74 57 [(2, 60), (0, a0), (0, a1), (1, r1), (9, 0), (0, i2)] [(0, 1)] m0 Q
                  refine zw_40_1 zr_74_57 ?_ ?_
                  · intro h25; omega
                  · intro h26
                    refine zw_4 zr_74_60 rfl ?_
                    refine zw_R zr_74_62 (by decide) zm_74 (v := (0, i2)) rfl ?_
                    rw [← hQ]; exact ⟨_, rfl, by omega, by omega, rfl⟩
          · intro h27
            refine zw_7 zr_44_10 rfl ?_
            refine zw_46r (s := 7) zr_44_11 rfl rfl rfl rfl ?_
            refine zw_3 zr_44_14 rfl ?_
            refine zw_48 (c := 7) (len := 60) zr_44_15 rfl rfl (by omega) (by omega) ?_
            intro x28 ex28
            have bx28 := ib_7 hI0 (k := (i2).toNat) (by omega)
            rw [← ex28] at bx28
            refine zw_3 zr_44_16 rfl ?_
            refine zw_41_4 zr_44_17 ?_ ?_
            · intro h29
              refine zw_push zr_44_24 ?_
              refine zw_R zr_44_25 (by decide) zm_44 (v := (0, 0)) (zRetB (by omega)) ?_
              rw [← hQ1]
              show zW E (d) 74 44 [(2, 60), (0, a0), (0, a1), (1, r1), (9, 0), (0, i2)] [(0, 0)] m0 Q
              refine zw_40_1 zr_74_44 ?_ ?_
              · intro h30
                refine zw_15 (c := 1) (L' := [(2, 60), (0, a0), (0, a1), (1, r1), (9, 0), (0, (i2 + 1))]) zr_74_63 rfl (by decide) (by omega) rfl ?_
                refine zw_42 zr_74_66 ?_
                exact zw_less (L := [(2, 60), (0, a0), (0, a1), (1, r1), (9, 0), (0, (i2 + 1))]) ⟨Or.inr rfl, Or.inr rfl, Or.inr rfl, Or.inr rfl, Or.inl rfl, Or.inr rfl, trivial⟩ (ihlp11_3 ((i2 + 1))  (by omega) (by omega)  (by omega))
              · intro h31; omega
            · intro h32
              refine zw_push zr_44_20 ?_
              refine zw_42 zr_44_21 ?_
              refine zw_R zr_44_25 (by decide) zm_44 (v := (0, 1)) (zRetB (by omega)) ?_
              rw [← hQ1]
              show zW E (d) 74 44 [(2, 60), (0, a0), (0, a1), (1, r1), (9, 0), (0, i2)] [(0, 1)] m0 Q
              refine zw_40_1 zr_74_44 ?_ ?_
              · intro h33; omega
              · intro h34
                refine zw_7 zr_74_47 rfl ?_
                refine zw_46r (s := 1) zr_74_48 rfl rfl rfl rfl ?_
                refine zw_4 zr_74_51 rfl ?_
                refine zw_3 zr_74_53 rfl ?_
                refine zw_C zr_74_54 (Or.inl rfl) zm_44 rfl rfl ⟨Nat.le_of_ble_eq_true rfl, Nat.le_of_ble_eq_true rfl, Nat.le_of_ble_eq_true rfl, rfl, by decide⟩ (by omega) (P := (fun v m' => zW E (d) 74 57 [(2, 60), (0, a0), (0, a1), (1, r1), (9, 0), (0, i2)] (if v.1 = 9 then [] else v :: []) m' Q)) ?_ (fun _ _ h => h)
                generalize hQ1 : (fun v m' => zW E (d) 74 57 [(2, 60), (0, a0), (0, a1), (1, r1), (9, 0), (0, i2)] (if v.1 = 9 then [] else v :: []) m' Q) = Q1
                show zW E (d - 1) 44 0 [(2, 1), (0, i2), (0, a1)] [] m0 Q1
                refine zw_7 zr_44_0 rfl ?_
                refine zw_46r (s := 6) zr_44_1 rfl rfl rfl rfl ?_
                refine zw_3 zr_44_4 rfl ?_
                refine zw_48k (c := 6) (len := 60) zr_44_5 rfl rfl (by omega) (by omega) rfl ex12.symm ?_
                refine zw_3 zr_44_6 rfl ?_
                refine zw_41_1 zr_44_7 ?_ ?_
                · intro h35
                  refine zw_push zr_44_20 ?_
                  refine zw_42 zr_44_21 ?_
                  refine zw_R zr_44_25 (by decide) zm_44 (v := (0, 1)) (zRetB (by omega)) ?_
                  rw [← hQ1]
                  show zW E (d) 74 57 [(2, 60), (0, a0), (0, a1), (1, r1), (9, 0), (0, i2)] [(0, 1)] m0 Q
                  refine zw_40_1 zr_74_57 ?_ ?_
                  · intro h36; omega
                  · intro h37
                    refine zw_4 zr_74_60 rfl ?_
                    refine zw_R zr_74_62 (by decide) zm_74 (v := (0, i2)) rfl ?_
                    rw [← hQ]; exact ⟨_, rfl, by omega, by omega, rfl⟩
                · intro h38
                  refine zw_7 zr_44_10 rfl ?_
                  refine zw_46r (s := 7) zr_44_11 rfl rfl rfl rfl ?_
                  refine zw_3 zr_44_14 rfl ?_
                  refine zw_48k (c := 7) (len := 60) zr_44_15 rfl rfl (by omega) (by omega) rfl ex28.symm ?_
                  refine zw_3 zr_44_16 rfl ?_
                  refine zw_41_4 zr_44_17 ?_ ?_
                  · intro h39
                    refine zw_push zr_44_24 ?_
                    refine zw_R zr_44_25 (by decide) zm_44 (v := (0, 0)) (zRetB (by omega)) ?_
                    rw [← hQ1]
                    show zW E (d) 74 57 [(2, 60), (0, a0), (0, a1), (1, r1), (9, 0), (0, i2)] [(0, 0)] m0 Q
                    refine zw_40_1 zr_74_57 ?_ ?_
                    · intro h40
                      refine zw_15 (c := 1) (L' := [(2, 60), (0, a0), (0, a1), (1, r1), (9, 0), (0, (i2 + 1))]) zr_74_63 rfl (by decide) (by omega) rfl ?_
                      refine zw_42 zr_74_66 ?_
                      exact zw_less (L := [(2, 60), (0, a0), (0, a1), (1, r1), (9, 0), (0, (i2 + 1))]) ⟨Or.inr rfl, Or.inr rfl, Or.inr rfl, Or.inr rfl, Or.inl rfl, Or.inr rfl, trivial⟩ (ihlp11_3 ((i2 + 1))  (by omega) (by omega)  (by omega))
                    · intro h41; omega
                  · intro h42
                    refine zw_push zr_44_20 ?_
                    refine zw_42 zr_44_21 ?_
                    refine zw_R zr_44_25 (by decide) zm_44 (v := (0, 1)) (zRetB (by omega)) ?_
                    rw [← hQ1]
                    show zW E (d) 74 57 [(2, 60), (0, a0), (0, a1), (1, r1), (9, 0), (0, i2)] [(0, 1)] m0 Q
                    refine zw_40_1 zr_74_57 ?_ ?_
                    · intro h43; omega
                    · intro h44
                      refine zw_4 zr_74_60 rfl ?_
                      refine zw_R zr_74_62 (by decide) zm_74 (v := (0, i2)) rfl ?_
                      rw [← hQ]; exact ⟨_, rfl, by omega, by omega, rfl⟩
  exact lp11_3 _ (0)  (by omega) (by omega)  (Nat.lt_succ_self _)

set_option maxHeartbeats 8000000 in
theorem th_75 {E : zE} {d : Nat} {m0 : zM} {a0 : Int} {a1 : Int} (hd : 3 ≤ d) (hI0 : zInv m0) (ha0 : 0 ≤ a0 ∧ a0 ≤ 9) (ha1 : 0 ≤ a1 ∧ a1 ≤ 2147483646) : zC E d 75 [(2, 60), (0, a0), (0, a1)] m0 (fun v m' => ∃ r : Int, v = (0, r) ∧ (-5) ≤ r ∧ r ≤ 59 ∧ m0 = m') := by
  generalize hQ : (fun (v : zV) (m' : zM) => ∃ r : Int, v = (0, r) ∧ (-5) ≤ r ∧ r ≤ 59 ∧ m0 = m') = Q
  show zW E d 75 0 [(2, 60), (0, a0), (0, a1), (9, 0), (9, 0)] [] m0 Q
  refine zw_3 zr_75_0 rfl ?_
  refine zw_9 (L' := [(2, 60), (0, a0), (0, a1), (0, a0), (9, 0)]) zr_75_1 (Nat.le_of_ble_eq_true rfl) rfl ?_
  refine zw_push zr_75_2 ?_
  refine zw_10 (L' := [(2, 60), (0, a0), (0, a1), (0, a0), (0, 0)]) zr_75_3 (Nat.le_of_ble_eq_true rfl) rfl ?_
  have lp5_3 : ∀ (nlp5_3 : Nat) (i1 i2 : Int), 0 ≤ i1 → i1 ≤ 9 → 0 ≤ i2 → i2 ≤ 10 → (10 - i2).toNat < nlp5_3 → zW E (d) 75 5 [(2, 60), (0, a0), (0, a1), (0, i1), (0, i2)] [] m0 Q := by
    intro nlp5_3
    induction nlp5_3 with
    | zero =>
      intros
      exact absurd (by assumption : _ < 0) (Nat.not_lt_zero _)
    | succ nlp5_3 ihlp5_3 =>
      intro i1 i2 li1 ui1 li2 ui2 hmlp5_3
      refine zw_4 zr_75_5 rfl ?_
      refine zw_3 zr_75_7 rfl ?_
      refine zw_41_3 zr_75_8 ?_ ?_
      · intro h5
        refine zw_7 zr_75_30 rfl ?_
        refine zw_3 zr_75_31 rfl ?_
        refine zw_7 zr_75_32 rfl ?_
        refine zw_3 zr_75_33 rfl ?_
        refine zw_C zr_75_34 (Or.inl rfl) zm_73 rfl rfl ⟨Nat.le_of_ble_eq_true rfl, Nat.le_of_ble_eq_true rfl, Nat.le_of_ble_eq_true rfl, rfl, by decide⟩ (by omega) (th_73 (d := d - 1) (by omega) hI0 (a0 := i1)      (by omega) ) ?_
        rintro _ _ ⟨r6, rfl, hr6a, hr6b, rfl⟩
        show zW E (d) 75 37 [(2, 60), (0, a0), (0, a1), (0, i1), (0, i2)] [(0, r6), (0, i1), (2, 60)] m0 Q
        refine zw_C zr_75_37 (Or.inl rfl) zm_74 rfl rfl ⟨Nat.le_of_ble_eq_true rfl, Nat.le_of_ble_eq_true rfl, Nat.le_of_ble_eq_true rfl, rfl, by decide⟩ (by omega) (th_74 (d := d - 1) (by omega) hI0 (a0 := i1) (a1 := r6)      (by omega) (by omega) ) ?_
        rintro _ _ ⟨r7, rfl, hr7a, hr7b, rfl⟩
        show zW E (d) 75 40 [(2, 60), (0, a0), (0, a1), (0, i1), (0, i2)] [(0, r7)] m0 Q
        refine zw_R zr_75_40 (by decide) zm_75 (v := (0, r7)) rfl ?_
        rw [← hQ]; exact ⟨_, rfl, by omega, by omega, rfl⟩
      · intro h8
        refine zw_4 zr_75_11 rfl ?_
        refine zw_push zr_75_13 ?_
        refine zw_41_3 zr_75_15 ?_ ?_
        · intro h9
          refine zw_7 zr_75_30 rfl ?_
          refine zw_3 zr_75_31 rfl ?_
          refine zw_7 zr_75_32 rfl ?_
          refine zw_3 zr_75_33 rfl ?_
          refine zw_C zr_75_34 (Or.inl rfl) zm_73 rfl rfl ⟨Nat.le_of_ble_eq_true rfl, Nat.le_of_ble_eq_true rfl, Nat.le_of_ble_eq_true rfl, rfl, by decide⟩ (by omega) (th_73 (d := d - 1) (by omega) hI0 (a0 := i1)      (by omega) ) ?_
          rintro _ _ ⟨r10, rfl, hr10a, hr10b, rfl⟩
          show zW E (d) 75 37 [(2, 60), (0, a0), (0, a1), (0, i1), (0, i2)] [(0, r10), (0, i1), (2, 60)] m0 Q
          refine zw_C zr_75_37 (Or.inl rfl) zm_74 rfl rfl ⟨Nat.le_of_ble_eq_true rfl, Nat.le_of_ble_eq_true rfl, Nat.le_of_ble_eq_true rfl, rfl, by decide⟩ (by omega) (th_74 (d := d - 1) (by omega) hI0 (a0 := i1) (a1 := r10)      (by omega) (by omega) ) ?_
          rintro _ _ ⟨r11, rfl, hr11a, hr11b, rfl⟩
          show zW E (d) 75 40 [(2, 60), (0, a0), (0, a1), (0, i1), (0, i2)] [(0, r11)] m0 Q
          refine zw_R zr_75_40 (by decide) zm_75 (v := (0, r11)) rfl ?_
          rw [← hQ]; exact ⟨_, rfl, by omega, by omega, rfl⟩
        · intro h12
          refine zw_7 zr_75_18 rfl ?_
          refine zw_3 zr_75_19 rfl ?_
          refine zw_C zr_75_20 (Or.inl rfl) zm_73 rfl rfl ⟨Nat.le_of_ble_eq_true rfl, Nat.le_of_ble_eq_true rfl, Nat.le_of_ble_eq_true rfl, rfl, by decide⟩ (by omega) (th_73 (d := d - 1) (by omega) hI0 (a0 := i1)      (by omega) ) ?_
          rintro _ _ ⟨r13, rfl, hr13a, hr13b, rfl⟩
          show zW E (d) 75 23 [(2, 60), (0, a0), (0, a1), (0, i1), (0, i2)] [(0, r13)] m0 Q
          refine zw_9 (L' := [(2, 60), (0, a0), (0, a1), (0, r13), (0, i2)]) zr_75_23 (Nat.le_of_ble_eq_true rfl) rfl ?_
          refine zw_15 (c := 1) (L' := [(2, 60), (0, a0), (0, a1), (0, r13), (0, (i2 + 1))]) zr_75_24 rfl (by decide) (by omega) rfl ?_
          refine zw_42 zr_75_27 ?_
          exact zw_less (L := [(2, 60), (0, a0), (0, a1), (0, r13), (0, (i2 + 1))]) ⟨Or.inr rfl, Or.inr rfl, Or.inr rfl, Or.inr rfl, Or.inr rfl, trivial⟩ (ihlp5_3 (r13) ((i2 + 1))  (by omega) (by omega) (by omega) (by omega)  (by omega))
  exact lp5_3 _ (a0) (0)  (by omega) (by omega) (by omega) (by omega)  (Nat.lt_succ_self _)

abbrev W_121 : List (Nat × Nat) := [(61, 1000), (62, 1000)]
set_option maxHeartbeats 8000000 in
theorem th_121 {E : zE} {d : Nat} {m0 : zM} {a0 : Int} {a1 : Int} {a2 : Int} (hd : 5 ≤ d) (hI0 : zInv m0) (ha0 : (-2147483648) ≤ a0 ∧ a0 ≤ 2147483647) (ha1 : (-2147483648) ≤ a1 ∧ a1 ≤ 2147483647) (ha2 : (-2147483648) ≤ a2 ∧ a2 ≤ 2147483647) : zC E d 121 [(2, 0), (0, a0), (0, a1), (0, a2)] m0 (fun v m' => ∃ r : Int, v = (0, r) ∧ (-2147483648) ≤ r ∧ r ≤ 2147483647 ∧ zInv m' ∧ zFr W_121 m0 m') := by
  have hF0 : zFr W_121 m0 m0 := zFr.rfl
  generalize hQ : (fun (v : zV) (m' : zM) => ∃ r : Int, v = (0, r) ∧ (-2147483648) ≤ r ∧ r ≤ 2147483647 ∧ zInv m' ∧ zFr W_121 m0 m') = Q
  show zW E d 121 0 [(2, 0), (0, a0), (0, a1), (0, a2), (9, 0)] [] m0 Q
  refine zw_7 zr_121_0 rfl ?_
  refine zw_46r (s := 1) zr_121_1 rfl rfl rfl rfl ?_
  refine zw_3 zr_121_4 rfl ?_
  refine zw_C zr_121_5 (Or.inl rfl) zm_49 rfl rfl ⟨Nat.le_of_ble_eq_true rfl, Nat.le_of_ble_eq_true rfl, Nat.le_of_ble_eq_true rfl, rfl, by decide⟩ (by omega) (P := (fun v m' => zW E (d) 121 8 [(2, 0), (0, a0), (0, a1), (0, a2), (9, 0)] (if v.1 = 9 then [] else v :: []) m' Q)) ?_ (fun _ _ h => h)
  generalize hQ1 : (fun v m' => zW E (d) 121 8 [(2, 0), (0, a0), (0, a1), (0, a2), (9, 0)] (if v.1 = 9 then [] else v :: []) m' Q) = Q1
  show zW E (d - 1) 49 0 [(2, 1), (0, a0)] [] m0 Q1
  refine zw_3 zr_49_0 rfl ?_
  refine zw_40_0 zr_49_1 ?_ ?_
  · intro h1
    refine zw_push zr_49_16 ?_
    refine zw_R zr_49_17 (by decide) zm_49 (v := (0, 0)) (zRetB (by omega)) ?_
    rw [← hQ1]
    show zW E (d) 121 8 [(2, 0), (0, a0), (0, a1), (0, a2), (9, 0)] [(0, 0)] m0 Q
    refine zw_40_1 zr_121_8 ?_ ?_
    · intro h2
      refine zw_push zr_121_27 ?_
      refine zw_R zr_121_29 (by decide) zm_121 (v := (0, (-10))) rfl ?_
      rw [← hQ]; exact ⟨_, rfl, by omega, by omega, hI0, hF0⟩
    · intro h3; omega
  · intro h4
    refine zw_3 zr_49_4 rfl ?_
    refine zw_7 zr_49_5 rfl ?_
    obtain ⟨f5, ef5⟩ : ∃ v, m0 1 0 = v := ⟨_, rfl⟩
    have bf5 := ib_1_0 hI0
    rw [ef5] at bf5
    refine zw_46i zr_49_6 ef5 rfl rfl rfl ?_
    refine zw_41_3 zr_49_9 ?_ ?_
    · intro h6
      refine zw_push zr_49_16 ?_
      refine zw_R zr_49_17 (by decide) zm_49 (v := (0, 0)) (zRetB (by omega)) ?_
      rw [← hQ1]
      show zW E (d) 121 8 [(2, 0), (0, a0), (0, a1), (0, a2), (9, 0)] [(0, 0)] m0 Q
      refine zw_40_1 zr_121_8 ?_ ?_
      · intro h7
        refine zw_push zr_121_27 ?_
        refine zw_R zr_121_29 (by decide) zm_121 (v := (0, (-10))) rfl ?_
        rw [← hQ]; exact ⟨_, rfl, by omega, by omega, hI0, hF0⟩
      · intro h8; omega
    · intro h9
      refine zw_push zr_49_12 ?_
      refine zw_42 zr_49_13 ?_
      refine zw_R zr_49_17 (by decide) zm_49 (v := (0, 1)) (zRetB (by omega)) ?_
      rw [← hQ1]
      show zW E (d) 121 8 [(2, 0), (0, a0), (0, a1), (0, a2), (9, 0)] [(0, 1)] m0 Q
      refine zw_40_1 zr_121_8 ?_ ?_
      · intro h10; omega
      · intro h11
        refine zw_7 zr_121_11 rfl ?_
        refine zw_46r (s := 1) zr_121_12 rfl rfl rfl rfl ?_
        refine zw_3 zr_121_15 rfl ?_
        refine zw_C zr_121_16 (Or.inl rfl) zm_49 rfl rfl ⟨Nat.le_of_ble_eq_true rfl, Nat.le_of_ble_eq_true rfl, Nat.le_of_ble_eq_true rfl, rfl, by decide⟩ (by omega) (P := (fun v m' => zW E (d) 121 19 [(2, 0), (0, a0), (0, a1), (0, a2), (9, 0)] (if v.1 = 9 then [] else v :: []) m' Q)) ?_ (fun _ _ h => h)
        generalize hQ1 : (fun v m' => zW E (d) 121 19 [(2, 0), (0, a0), (0, a1), (0, a2), (9, 0)] (if v.1 = 9 then [] else v :: []) m' Q) = Q1
        show zW E (d - 1) 49 0 [(2, 1), (0, a1)] [] m0 Q1
        refine zw_3 zr_49_0 rfl ?_
        refine zw_40_0 zr_49_1 ?_ ?_
        · intro h12
          refine zw_push zr_49_16 ?_
          refine zw_R zr_49_17 (by decide) zm_49 (v := (0, 0)) (zRetB (by omega)) ?_
          rw [← hQ1]
          show zW E (d) 121 19 [(2, 0), (0, a0), (0, a1), (0, a2), (9, 0)] [(0, 0)] m0 Q
          refine zw_40_1 zr_121_19 ?_ ?_
          · intro h13
            refine zw_push zr_121_27 ?_
            refine zw_R zr_121_29 (by decide) zm_121 (v := (0, (-10))) rfl ?_
            rw [← hQ]; exact ⟨_, rfl, by omega, by omega, hI0, hF0⟩
          · intro h14; omega
        · intro h15
          refine zw_3 zr_49_4 rfl ?_
          refine zw_7 zr_49_5 rfl ?_
          refine zw_46i zr_49_6 ef5 rfl rfl rfl ?_
          refine zw_41_3 zr_49_9 ?_ ?_
          · intro h16
            refine zw_push zr_49_16 ?_
            refine zw_R zr_49_17 (by decide) zm_49 (v := (0, 0)) (zRetB (by omega)) ?_
            rw [← hQ1]
            show zW E (d) 121 19 [(2, 0), (0, a0), (0, a1), (0, a2), (9, 0)] [(0, 0)] m0 Q
            refine zw_40_1 zr_121_19 ?_ ?_
            · intro h17
              refine zw_push zr_121_27 ?_
              refine zw_R zr_121_29 (by decide) zm_121 (v := (0, (-10))) rfl ?_
              rw [← hQ]; exact ⟨_, rfl, by omega, by omega, hI0, hF0⟩
            · intro h18; omega
          · intro h19
            refine zw_push zr_49_12 ?_
            refine zw_42 zr_49_13 ?_
            refine zw_R zr_49_17 (by decide) zm_49 (v := (0, 1)) (zRetB (by omega)) ?_
            rw [← hQ1]
            show zW E (d) 121 19 [(2, 0), (0, a0), (0, a1), (0, a2), (9, 0)] [(0, 1)] m0 Q
            refine zw_40_1 zr_121_19 ?_ ?_
            · intro h20; omega
            · intro h21
              refine zw_3 zr_121_22 rfl ?_
              refine zw_push zr_121_23 ?_
              refine zw_41_3 zr_121_24 ?_ ?_
              · intro h22
                refine zw_7 zr_121_30 rfl ?_
                refine zw_46r (s := 60) zr_121_31 rfl rfl rfl rfl ?_
                refine zw_3 zr_121_34 rfl ?_
                refine zw_3 zr_121_35 rfl ?_
                refine zw_C zr_121_36 (Or.inl rfl) zm_72 rfl rfl ⟨Nat.le_of_ble_eq_true rfl, Nat.le_of_ble_eq_true rfl, Nat.le_of_ble_eq_true rfl, rfl, by decide⟩ (by omega) (th_72 (d := d - 1) (by omega) hI0 (a0 := a0) (a1 := a1)      (by omega) (by omega) ) ?_
                rintro _ m23 ⟨r24, rfl, hr24a, hr24b, hIm23, gm23⟩
                have hFm23 : zFr W_121 m0 m23 := hF0.trans gm23 rfl
                have km23_1_0 : m23 1 0 = f5 := (gm23 1 0 rfl).trans ef5
                show zW E (d) 121 39 [(2, 0), (0, a0), (0, a1), (0, a2), (9, 0)] [(0, r24)] m23 Q
                refine zw_10 (L' := [(2, 0), (0, a0), (0, a1), (0, a2), (0, r24)]) zr_121_39 (Nat.le_of_ble_eq_true rfl) rfl ?_
                refine zw_3 zr_121_41 rfl ?_
                refine zw_push zr_121_42 ?_
                refine zw_41_4 zr_121_43 ?_ ?_
                · intro h25
                  refine zw_3 zr_121_49 rfl ?_
                  refine zw_4 zr_121_50 rfl ?_
                  refine zw_41_3 zr_121_52 ?_ ?_
                  · intro h26
                    refine zw_push zr_121_67 ?_
                    refine zw_R zr_121_69 (by decide) zm_121 (v := (0, (-5))) rfl ?_
                    rw [← hQ]; exact ⟨_, rfl, by omega, by omega, hIm23, hFm23⟩
                  · intro h27
                    refine zw_7 zr_121_55 rfl ?_
                    refine zw_46r (s := 60) zr_121_56 rfl rfl rfl rfl ?_
                    refine zw_3 zr_121_59 rfl ?_
                    refine zw_3 zr_121_60 rfl ?_
                    refine zw_C zr_121_61 (Or.inl rfl) zm_75 rfl rfl ⟨Nat.le_of_ble_eq_true rfl, Nat.le_of_ble_eq_true rfl, Nat.le_of_ble_eq_true rfl, rfl, by decide⟩ (by omega) (th_75 (d := d - 1) (by omega) hIm23 (a0 := a0) (a1 := a2)      (by omega) (by omega) ) ?_
                    rintro _ _ ⟨r28, rfl, hr28a, hr28b, rfl⟩
                    show zW E (d) 121 64 [(2, 0), (0, a0), (0, a1), (0, a2), (0, r24)] [(0, r28)] m23 Q
                    refine zw_42 zr_121_64 ?_
                    refine zw_R zr_121_69 (by decide) zm_121 (v := (0, r28)) rfl ?_
                    rw [← hQ]; exact ⟨_, rfl, by omega, by omega, hIm23, hFm23⟩
                · intro h29
                  refine zw_4 zr_121_46 rfl ?_
                  refine zw_R zr_121_48 (by decide) zm_121 (v := (0, r24)) rfl ?_
                  rw [← hQ]; exact ⟨_, rfl, by omega, by omega, hIm23, hFm23⟩
              · intro h30
                refine zw_push zr_121_27 ?_
                refine zw_R zr_121_29 (by decide) zm_121 (v := (0, (-10))) rfl ?_
                rw [← hQ]; exact ⟨_, rfl, by omega, by omega, hI0, hF0⟩

abbrev W_191 : List (Nat × Nat) := [(81, 1000)]
set_option maxHeartbeats 8000000 in
theorem th_191 {E : zE} {d : Nat} {m0 : zM} {a0 : Int} {a1 : Int} {a2 : Int} (hd : 4 ≤ d) (hI0 : zInv m0) (ha0 : (-2147483648) ≤ a0 ∧ a0 ≤ 2147483647) (ha1 : (-2147483648) ≤ a1 ∧ a1 ≤ 2147483647) (ha2 : (-2147483648) ≤ a2 ∧ a2 ≤ 2147483647) : zC E d 191 [(2, 69), (0, a0), (0, a1), (0, a2)] m0 (fun v m' => ∃ r : Int, v = (0, r) ∧ (-10) ≤ r ∧ r ≤ 99999999 ∧ zInv m' ∧ zFr W_191 m0 m') := by
  have hF0 : zFr W_191 m0 m0 := zFr.rfl
  generalize hQ : (fun (v : zV) (m' : zM) => ∃ r : Int, v = (0, r) ∧ (-10) ≤ r ∧ r ≤ 99999999 ∧ zInv m' ∧ zFr W_191 m0 m') = Q
  show zW E d 191 0 [(2, 69), (0, a0), (0, a1), (0, a2), (9, 0), (9, 0), (9, 0), (9, 0), (9, 0), (9, 0)] [] m0 Q
  refine zw_7 zr_191_0 rfl ?_
  refine zw_3 zr_191_1 rfl ?_
  refine zw_C zr_191_2 (Or.inl rfl) zm_143 rfl rfl ⟨Nat.le_of_ble_eq_true rfl, Nat.le_of_ble_eq_true rfl, Nat.le_of_ble_eq_true rfl, rfl, by decide⟩ (by omega) (P := (fun v m' => zW E (d) 191 5 [(2, 69), (0, a0), (0, a1), (0, a2), (9, 0), (9, 0), (9, 0), (9, 0), (9, 0), (9, 0)] (if v.1 = 9 then [] else v :: []) m' Q)) ?_ (fun _ _ h => h)
  generalize hQ1 : (fun v m' => zW E (d) 191 5 [(2, 69), (0, a0), (0, a1), (0, a2), (9, 0), (9, 0), (9, 0), (9, 0), (9, 0), (9, 0)] (if v.1 = 9 then [] else v :: []) m' Q) = Q1
  show zW E (d - 1) 143 0 [(2, 69), (0, a0)] [] m0 Q1
  refine zw_3 zr_143_0 rfl ?_
  refine zw_36 zr_143_1 ?_
  refine zw_push zr_143_2 ?_
  refine zw_7 zr_143_3 rfl ?_
  refine zw_C zr_143_4 (Or.inl rfl) zm_141 rfl rfl ⟨Nat.le_of_ble_eq_true rfl, Nat.le_of_ble_eq_true rfl, Nat.le_of_ble_eq_true rfl, rfl, by decide⟩ (by omega) (P := (fun v m' => zW E (d - 1) 143 7 [(2, 69), (0, a0)] (if v.1 = 9 then [(1, 0), (1, a0)] else v :: [(1, 0), (1, a0)]) m' Q1)) ?_ (fun _ _ h => h)
  generalize hQ2 : (fun v m' => zW E (d - 1) 143 7 [(2, 69), (0, a0)] (if v.1 = 9 then [(1, 0), (1, a0)] else v :: [(1, 0), (1, a0)]) m' Q1) = Q2
  show zW E (d - 1 - 1) 141 0 [(2, 69)] [] m0 Q2
  refine zw_7 zr_141_0 rfl ?_
  refine zw_46r (s := 70) zr_141_1 rfl rfl rfl rfl ?_
  refine zw_push zr_141_4 ?_
  obtain ⟨f1, ef1⟩ : ∃ v, m0 70 822 = v := ⟨_, rfl⟩
  have bf1 : 0 ≤ m0 70 822 ∧ m0 70 822 ≤ 10 := ib_70_players hI0 (by omega)
  rw [ef1] at bf1
  refine zw_48k (c := 70) (len := 826) zr_141_7 rfl rfl (by omega) (by omega) (show (822 : Int).toNat = 822 by omega) ef1 ?_
  refine zw_R zr_141_8 (by decide) zm_141 (v := (0, f1)) rfl ?_
  rw [← hQ2]
  show zW E (d - 1) 143 7 [(2, 69), (0, a0)] [(0, f1), (1, 0), (1, a0)] m0 Q1
  refine zw_push zr_143_7 ?_
  refine zw_17 zr_143_8 (by omega) ?_
  refine zw_36 zr_143_9 ?_
  refine zw_C zr_143_10 (Or.inr rfl) zm_140 rfl rfl ⟨Nat.le_of_ble_eq_true rfl, Nat.le_of_ble_eq_true rfl, Nat.le_of_ble_eq_true rfl, rfl, by decide⟩ (by omega) (P := (fun v m' => zW E (d - 1) 143 13 [(2, 69), (0, a0)] (if v.1 = 9 then [] else v :: []) m' Q1)) ?_ (fun _ _ h => h)
  generalize hQ2 : (fun v m' => zW E (d - 1) 143 13 [(2, 69), (0, a0)] (if v.1 = 9 then [] else v :: []) m' Q1) = Q2
  show zW E (d - 1 - 1) 140 0 [(1, a0), (9, 0), (1, 0), (9, 0), (1, (f1 - 1)), (9, 0)] [] m0 Q2
  refine zw_5 zr_140_0 rfl ?_
  refine zw_5 zr_140_1 rfl ?_
  refine zw_39_0 zr_140_2 zr_140_3 ?_ ?_
  · intro h2
    refine zw_push zr_140_17 ?_
    refine zw_R zr_140_18 (by decide) zm_140 (v := (0, 0)) (zRetB (by omega)) ?_
    rw [← hQ2]
    show zW E (d - 1) 143 13 [(2, 69), (0, a0)] [(0, 0)] m0 Q1
    refine zw_R zr_143_13 (by decide) zm_143 (v := (0, 0)) (zRetB (by omega)) ?_
    rw [← hQ1]
    show zW E (d) 191 5 [(2, 69), (0, a0), (0, a1), (0, a2), (9, 0), (9, 0), (9, 0), (9, 0), (9, 0), (9, 0)] [(0, 0)] m0 Q
    refine zw_40_1 zr_191_5 ?_ ?_
    · intro h3
      refine zw_push zr_191_21 ?_
      refine zw_R zr_191_23 (by decide) zm_191 (v := (0, (-10))) rfl ?_
      rw [← hQ]; exact ⟨_, rfl, by omega, by omega, hI0, hF0⟩
    · intro h4; omega
  · intro h5
    refine zw_5 zr_140_6 rfl ?_
    refine zw_6 zr_140_7 rfl ?_
    refine zw_39_2 zr_140_9 zr_140_10 ?_ ?_
    · intro h6
      refine zw_push zr_140_17 ?_
      refine zw_R zr_140_18 (by decide) zm_140 (v := (0, 0)) (zRetB (by omega)) ?_
      rw [← hQ2]
      show zW E (d - 1) 143 13 [(2, 69), (0, a0)] [(0, 0)] m0 Q1
      refine zw_R zr_143_13 (by decide) zm_143 (v := (0, 0)) (zRetB (by omega)) ?_
      rw [← hQ1]
      show zW E (d) 191 5 [(2, 69), (0, a0), (0, a1), (0, a2), (9, 0), (9, 0), (9, 0), (9, 0), (9, 0), (9, 0)] [(0, 0)] m0 Q
      refine zw_40_1 zr_191_5 ?_ ?_
      · intro h7
        refine zw_push zr_191_21 ?_
        refine zw_R zr_191_23 (by decide) zm_191 (v := (0, (-10))) rfl ?_
        rw [← hQ]; exact ⟨_, rfl, by omega, by omega, hI0, hF0⟩
      · intro h8; omega
    · intro h9
      refine zw_push zr_140_13 ?_
      refine zw_42 zr_140_14 ?_
      refine zw_R zr_140_18 (by decide) zm_140 (v := (0, 1)) (zRetB (by omega)) ?_
      rw [← hQ2]
      show zW E (d - 1) 143 13 [(2, 69), (0, a0)] [(0, 1)] m0 Q1
      refine zw_R zr_143_13 (by decide) zm_143 (v := (0, 1)) (zRetB (by omega)) ?_
      rw [← hQ1]
      show zW E (d) 191 5 [(2, 69), (0, a0), (0, a1), (0, a2), (9, 0), (9, 0), (9, 0), (9, 0), (9, 0), (9, 0)] [(0, 1)] m0 Q
      refine zw_40_1 zr_191_5 ?_ ?_
      · intro h10; omega
      · intro h11
        refine zw_7 zr_191_8 rfl ?_
        refine zw_3 zr_191_9 rfl ?_
        refine zw_C zr_191_10 (Or.inl rfl) zm_143 rfl rfl ⟨Nat.le_of_ble_eq_true rfl, Nat.le_of_ble_eq_true rfl, Nat.le_of_ble_eq_true rfl, rfl, by decide⟩ (by omega) (P := (fun v m' => zW E (d) 191 13 [(2, 69), (0, a0), (0, a1), (0, a2), (9, 0), (9, 0), (9, 0), (9, 0), (9, 0), (9, 0)] (if v.1 = 9 then [] else v :: []) m' Q)) ?_ (fun _ _ h => h)
        generalize hQ1 : (fun v m' => zW E (d) 191 13 [(2, 69), (0, a0), (0, a1), (0, a2), (9, 0), (9, 0), (9, 0), (9, 0), (9, 0), (9, 0)] (if v.1 = 9 then [] else v :: []) m' Q) = Q1
        show zW E (d - 1) 143 0 [(2, 69), (0, a1)] [] m0 Q1
        refine zw_3 zr_143_0 rfl ?_
        refine zw_36 zr_143_1 ?_
        refine zw_push zr_143_2 ?_
        refine zw_7 zr_143_3 rfl ?_
        refine zw_C zr_143_4 (Or.inl rfl) zm_141 rfl rfl ⟨Nat.le_of_ble_eq_true rfl, Nat.le_of_ble_eq_true rfl, Nat.le_of_ble_eq_true rfl, rfl, by decide⟩ (by omega) (P := (fun v m' => zW E (d - 1) 143 7 [(2, 69), (0, a1)] (if v.1 = 9 then [(1, 0), (1, a1)] else v :: [(1, 0), (1, a1)]) m' Q1)) ?_ (fun _ _ h => h)
        generalize hQ2 : (fun v m' => zW E (d - 1) 143 7 [(2, 69), (0, a1)] (if v.1 = 9 then [(1, 0), (1, a1)] else v :: [(1, 0), (1, a1)]) m' Q1) = Q2
        show zW E (d - 1 - 1) 141 0 [(2, 69)] [] m0 Q2
        refine zw_7 zr_141_0 rfl ?_
        refine zw_46r (s := 70) zr_141_1 rfl rfl rfl rfl ?_
        refine zw_push zr_141_4 ?_
        refine zw_48k (c := 70) (len := 826) zr_141_7 rfl rfl (by omega) (by omega) (show (822 : Int).toNat = 822 by omega) ef1 ?_
        refine zw_R zr_141_8 (by decide) zm_141 (v := (0, f1)) rfl ?_
        rw [← hQ2]
        show zW E (d - 1) 143 7 [(2, 69), (0, a1)] [(0, f1), (1, 0), (1, a1)] m0 Q1
        refine zw_push zr_143_7 ?_
        refine zw_17 zr_143_8 (by omega) ?_
        refine zw_36 zr_143_9 ?_
        refine zw_C zr_143_10 (Or.inr rfl) zm_140 rfl rfl ⟨Nat.le_of_ble_eq_true rfl, Nat.le_of_ble_eq_true rfl, Nat.le_of_ble_eq_true rfl, rfl, by decide⟩ (by omega) (P := (fun v m' => zW E (d - 1) 143 13 [(2, 69), (0, a1)] (if v.1 = 9 then [] else v :: []) m' Q1)) ?_ (fun _ _ h => h)
        generalize hQ2 : (fun v m' => zW E (d - 1) 143 13 [(2, 69), (0, a1)] (if v.1 = 9 then [] else v :: []) m' Q1) = Q2
        show zW E (d - 1 - 1) 140 0 [(1, a1), (9, 0), (1, 0), (9, 0), (1, (f1 - 1)), (9, 0)] [] m0 Q2
        refine zw_5 zr_140_0 rfl ?_
        refine zw_5 zr_140_1 rfl ?_
        refine zw_39_0 zr_140_2 zr_140_3 ?_ ?_
        · intro h12
          refine zw_push zr_140_17 ?_
          refine zw_R zr_140_18 (by decide) zm_140 (v := (0, 0)) (zRetB (by omega)) ?_
          rw [← hQ2]
          show zW E (d - 1) 143 13 [(2, 69), (0, a1)] [(0, 0)] m0 Q1
          refine zw_R zr_143_13 (by decide) zm_143 (v := (0, 0)) (zRetB (by omega)) ?_
          rw [← hQ1]
          show zW E (d) 191 13 [(2, 69), (0, a0), (0, a1), (0, a2), (9, 0), (9, 0), (9, 0), (9, 0), (9, 0), (9, 0)] [(0, 0)] m0 Q
          refine zw_40_1 zr_191_13 ?_ ?_
          · intro h13
            refine zw_push zr_191_21 ?_
            refine zw_R zr_191_23 (by decide) zm_191 (v := (0, (-10))) rfl ?_
            rw [← hQ]; exact ⟨_, rfl, by omega, by omega, hI0, hF0⟩
          · intro h14; omega
        · intro h15
          refine zw_5 zr_140_6 rfl ?_
          refine zw_6 zr_140_7 rfl ?_
          refine zw_39_2 zr_140_9 zr_140_10 ?_ ?_
          · intro h16
            refine zw_push zr_140_17 ?_
            refine zw_R zr_140_18 (by decide) zm_140 (v := (0, 0)) (zRetB (by omega)) ?_
            rw [← hQ2]
            show zW E (d - 1) 143 13 [(2, 69), (0, a1)] [(0, 0)] m0 Q1
            refine zw_R zr_143_13 (by decide) zm_143 (v := (0, 0)) (zRetB (by omega)) ?_
            rw [← hQ1]
            show zW E (d) 191 13 [(2, 69), (0, a0), (0, a1), (0, a2), (9, 0), (9, 0), (9, 0), (9, 0), (9, 0), (9, 0)] [(0, 0)] m0 Q
            refine zw_40_1 zr_191_13 ?_ ?_
            · intro h17
              refine zw_push zr_191_21 ?_
              refine zw_R zr_191_23 (by decide) zm_191 (v := (0, (-10))) rfl ?_
              rw [← hQ]; exact ⟨_, rfl, by omega, by omega, hI0, hF0⟩
            · intro h18; omega
          · intro h19
            refine zw_push zr_140_13 ?_
            refine zw_42 zr_140_14 ?_
            refine zw_R zr_140_18 (by decide) zm_140 (v := (0, 1)) (zRetB (by omega)) ?_
            rw [← hQ2]
            show zW E (d - 1) 143 13 [(2, 69), (0, a1)] [(0, 1)] m0 Q1
            refine zw_R zr_143_13 (by decide) zm_143 (v := (0, 1)) (zRetB (by omega)) ?_
            rw [← hQ1]
            show zW E (d) 191 13 [(2, 69), (0, a0), (0, a1), (0, a2), (9, 0), (9, 0), (9, 0), (9, 0), (9, 0), (9, 0)] [(0, 1)] m0 Q
            refine zw_40_1 zr_191_13 ?_ ?_
            · intro h20; omega
            · intro h21
              refine zw_3 zr_191_16 rfl ?_
              refine zw_push zr_191_17 ?_
              refine zw_41_3 zr_191_18 ?_ ?_
              · intro h22
                refine zw_7 zr_191_24 rfl ?_
                refine zw_3 zr_191_25 rfl ?_
                refine zw_push zr_191_26 ?_
                refine zw_C zr_191_27 (Or.inl rfl) zm_188 rfl rfl ⟨Nat.le_of_ble_eq_true rfl, Nat.le_of_ble_eq_true rfl, Nat.le_of_ble_eq_true rfl, rfl, by decide⟩ (by omega) (th_188 (d := d - 1) (by omega) hI0 (a0 := a1) (a1 := (-1))      (by omega) (by omega) ) ?_
                rintro _ m23 ⟨rfl, hIm23, gm23, po0_m23⟩
                have hFm23 : zFr W_191 m0 m23 := hF0.trans gm23 rfl
                have km23_70_822 : m23 70 822 = f1 := (gm23 70 822 rfl).trans ef1
                show zW E (d) 191 30 [(2, 69), (0, a0), (0, a1), (0, a2), (9, 0), (9, 0), (9, 0), (9, 0), (9, 0), (9, 0)] [] m23 Q
                refine zw_7 zr_191_30 rfl ?_
                refine zw_46r (s := 81) zr_191_31 rfl rfl rfl rfl ?_
                refine zw_3 zr_191_34 rfl ?_
                refine zw_48 (c := 81) (len := 10) zr_191_35 rfl rfl (by omega) (by omega) ?_
                intro x24 ex24
                have bx24 := ib_81 hIm23 (k := (a0).toNat) (by omega)
                rw [← ex24] at bx24
                refine zw_push zr_191_36 ?_
                refine zw_41_0 zr_191_38 ?_ ?_
                · intro h25
                  refine zw_3 zr_191_44 rfl ?_
                  refine zw_push zr_191_45 ?_
                  refine zw_41_4 zr_191_46 ?_ ?_
                  · intro h26
                    refine zw_3 zr_191_56 rfl ?_
                    refine zw_7 zr_191_57 rfl ?_
                    refine zw_46r (s := 81) zr_191_58 rfl rfl rfl rfl ?_
                    refine zw_3 zr_191_61 rfl ?_
                    refine zw_48k (c := 81) (len := 10) zr_191_62 rfl rfl (by omega) (by omega) rfl ex24.symm ?_
                    refine zw_41_0 zr_191_63 ?_ ?_
                    · intro h27
                      refine zw_3 zr_191_69 rfl ?_
                      refine zw_10 (L' := [(2, 69), (0, a0), (0, a1), (0, a2), (0, a0), (9, 0), (9, 0), (9, 0), (9, 0), (9, 0)]) zr_191_70 (Nat.le_of_ble_eq_true rfl) rfl ?_
                      refine zw_push zr_191_72 ?_
                      refine zw_10 (L' := [(2, 69), (0, a0), (0, a1), (0, a2), (0, a0), (0, (-1)), (9, 0), (9, 0), (9, 0), (9, 0)]) zr_191_73 (Nat.le_of_ble_eq_true rfl) rfl ?_
                      refine zw_push zr_191_75 ?_
                      refine zw_10 (L' := [(2, 69), (0, a0), (0, a1), (0, a2), (0, a0), (0, (-1)), (0, 0), (9, 0), (9, 0), (9, 0)]) zr_191_76 (Nat.le_of_ble_eq_true rfl) rfl ?_
                      have lp78_31 : ∀ (nlp78_31 : Nat) (i28 i29 i30 : Int), (-1) ≤ i28 → i28 ≤ 9 → (-1) ≤ i29 → i29 ≤ 59 → 0 ≤ i30 → i30 ≤ 2147483647 → (2147483647 - i30).toNat < nlp78_31 → zW E (d) 191 78 [(2, 69), (0, a0), (0, a1), (0, a2), (0, i28), (0, i29), (0, i30), (9, 0), (9, 0), (9, 0)] [] m23 Q := by
                        intro nlp78_31
                        induction nlp78_31 with
                        | zero =>
                          intros
                          exact absurd (by assumption : _ < 0) (Nat.not_lt_zero _)
                        | succ nlp78_31 ihlp78_31 =>
                          intro i28 i29 i30 li28 ui28 li29 ui29 li30 ui30 hmlp78_31
                          refine zw_4 zr_191_78 rfl ?_
                          refine zw_3 zr_191_80 rfl ?_
                          refine zw_41_2 zr_191_81 ?_ ?_
                          · intro h33
                            refine zw_4 zr_191_195 rfl ?_
                            refine zw_R zr_191_197 (by decide) zm_191 (v := (0, i29)) rfl ?_
                            rw [← hQ]; exact ⟨_, rfl, by omega, by omega, hIm23, hFm23⟩
                          · intro h34
                            refine zw_push zr_191_84 ?_
                            refine zw_10 (L' := [(2, 69), (0, a0), (0, a1), (0, a2), (0, i28), (0, i29), (0, i30), (0, (-1)), (9, 0), (9, 0)]) zr_191_85 (Nat.le_of_ble_eq_true rfl) rfl ?_
                            refine zw_push zr_191_87 ?_
                            refine zw_10 (L' := [(2, 69), (0, a0), (0, a1), (0, a2), (0, i28), (0, i29), (0, i30), (0, (-1)), (0, 0), (9, 0)]) zr_191_88 (Nat.le_of_ble_eq_true rfl) rfl ?_
                            have lp90_38 : ∀ (nlp90_38 : Nat) (i35 i36 i37 : Int), (-1) ≤ i35 → i35 ≤ 59 → (-1) ≤ i36 → i36 ≤ 9 → 0 ≤ i37 → i37 ≤ 60 → (60 - i37).toNat < nlp90_38 → zW E (d) 191 90 [(2, 69), (0, a0), (0, a1), (0, a2), (0, i28), (0, i35), (0, i30), (0, i36), (0, i37), (9, 0)] [] m23 Q := by
                              intro nlp90_38
                              induction nlp90_38 with
                              | zero =>
                                intros
                                exact absurd (by assumption : _ < 0) (Nat.not_lt_zero _)
                              | succ nlp90_38 ihlp90_38 =>
                                intro i35 i36 i37 li35 ui35 li36 ui36 li37 ui37 hmlp90_38
                                refine zw_4 zr_191_90 rfl ?_
                                refine zw_7 zr_191_92 rfl ?_
                                refine zw_C zr_191_93 (Or.inl rfl) zm_142 rfl rfl ⟨Nat.le_of_ble_eq_true rfl, Nat.le_of_ble_eq_true rfl, Nat.le_of_ble_eq_true rfl, rfl, by decide⟩ (by omega) (P := (fun v m' => zW E (d) 191 96 [(2, 69), (0, a0), (0, a1), (0, a2), (0, i28), (0, i35), (0, i30), (0, i36), (0, i37), (9, 0)] (if v.1 = 9 then [(0, i37)] else v :: [(0, i37)]) m' Q)) ?_ (fun _ _ h => h)
                                generalize hQ1 : (fun v m' => zW E (d) 191 96 [(2, 69), (0, a0), (0, a1), (0, a2), (0, i28), (0, i35), (0, i30), (0, i36), (0, i37), (9, 0)] (if v.1 = 9 then [(0, i37)] else v :: [(0, i37)]) m' Q) = Q1
                                show zW E (d - 1) 142 0 [(2, 69)] [] m23 Q1
                                refine zw_7 zr_142_0 rfl ?_
                                refine zw_46r (s := 70) zr_142_1 rfl rfl rfl rfl ?_
                                refine zw_push zr_142_4 ?_
                                obtain ⟨f40, ef40⟩ : ∃ v, m23 70 823 = v := ⟨_, rfl⟩
                                have bf40 : 0 ≤ m23 70 823 ∧ m23 70 823 ≤ 60 := ib_70_meetings hIm23 (by omega)
                                rw [ef40] at bf40
                                refine zw_48k (c := 70) (len := 826) zr_142_7 rfl rfl (by omega) (by omega) (show (823 : Int).toNat = 823 by omega) ef40 ?_
                                refine zw_R zr_142_8 (by decide) zm_142 (v := (0, f40)) rfl ?_
                                rw [← hQ1]
                                show zW E (d) 191 96 [(2, 69), (0, a0), (0, a1), (0, a2), (0, i28), (0, i35), (0, i30), (0, i36), (0, i37), (9, 0)] [(0, f40), (0, i37)] m23 Q
                                refine zw_41_3 zr_191_96 ?_ ?_
                                · intro h41
                                  refine zw_4 zr_191_185 rfl ?_
                                  refine zw_10 (L' := [(2, 69), (0, a0), (0, a1), (0, a2), (0, i36), (0, i35), (0, i30), (0, i36), (0, i37), (9, 0)]) zr_191_187 (Nat.le_of_ble_eq_true rfl) rfl ?_
                                  refine zw_15 (c := 1) (L' := [(2, 69), (0, a0), (0, a1), (0, a2), (0, i36), (0, i35), (0, (i30 + 1)), (0, i36), (0, i37), (9, 0)]) zr_191_189 rfl (by decide) (by omega) rfl ?_
                                  refine zw_42 zr_191_192 ?_
                                  exact zw_less (L := [(2, 69), (0, a0), (0, a1), (0, a2), (0, i36), (0, i35), (0, (i30 + 1)), (9, 0), (9, 0), (9, 0)]) ⟨Or.inr rfl, Or.inr rfl, Or.inr rfl, Or.inr rfl, Or.inr rfl, Or.inr rfl, Or.inr rfl, Or.inl rfl, Or.inl rfl, Or.inl rfl, trivial⟩ (ihlp78_31 (i36) (i35) ((i30 + 1))  (by omega) (by omega) (by omega) (by omega) (by omega) (by omega)  (by omega))
                                · intro h42
                                  refine zw_7 zr_191_99 rfl ?_
                                  refine zw_4 zr_191_100 rfl ?_
                                  refine zw_C zr_191_102 (Or.inl rfl) zm_181 rfl rfl ⟨Nat.le_of_ble_eq_true rfl, Nat.le_of_ble_eq_true rfl, Nat.le_of_ble_eq_true rfl, rfl, by decide⟩ (by omega) (P := (fun v m' => zW E (d) 191 105 [(2, 69), (0, a0), (0, a1), (0, a2), (0, i28), (0, i35), (0, i30), (0, i36), (0, i37), (9, 0)] (if v.1 = 9 then [] else v :: []) m' Q)) ?_ (fun _ _ h => h)
                                  generalize hQ1 : (fun v m' => zW E (d) 191 105 [(2, 69), (0, a0), (0, a1), (0, a2), (0, i28), (0, i35), (0, i30), (0, i36), (0, i37), (9, 0)] (if v.1 = 9 then [] else v :: []) m' Q) = Q1
                                  show zW E (d - 1) 181 0 [(2, 69), (0, i37)] [] m23 Q1
                                  refine zw_7 zr_181_0 rfl ?_
                                  refine zw_3 zr_181_1 rfl ?_
                                  refine zw_push zr_181_2 ?_
                                  refine zw_C zr_181_3 (Or.inl rfl) zm_144 rfl rfl ⟨Nat.le_of_ble_eq_true rfl, Nat.le_of_ble_eq_true rfl, Nat.le_of_ble_eq_true rfl, rfl, by decide⟩ (by omega) (P := (fun v m' => zW E (d - 1) 181 6 [(2, 69), (0, i37)] (if v.1 = 9 then [] else v :: []) m' Q1)) ?_ (fun _ _ h => h)
                                  generalize hQ2 : (fun v m' => zW E (d - 1) 181 6 [(2, 69), (0, i37)] (if v.1 = 9 then [] else v :: []) m' Q1) = Q2
                                  show zW E (d - 1 - 1) 144 0 [(2, 69), (0, i37), (0, 4)] [] m23 Q2
                                  refine zw_7 zr_144_0 rfl ?_
                                  refine zw_46r (s := 70) zr_144_1 rfl rfl rfl rfl ?_
                                  refine zw_push zr_144_4 ?_
                                  refine zw_push zr_144_6 ?_
                                  refine zw_3 zr_144_8 rfl ?_
                                  refine zw_18 zr_144_9 (by omega) ?_
                                  refine zw_16 zr_144_10 (by omega) ?_
                                  refine zw_3 zr_144_11 rfl ?_
                                  refine zw_16 zr_144_12 (by omega) ?_
                                  refine zw_48 (c := 70) (len := 826) zr_144_13 rfl rfl (by omega) (by omega) ?_
                                  intro x43 ex43
                                  have bx43 := ib_70_m4 hIm23 (k := (((90 + (6 * i37)) + 4)).toNat) (by omega)
                                  rw [← ex43] at bx43
                                  refine zw_R zr_144_14 (by decide) zm_144 (v := (0, x43)) rfl ?_
                                  rw [← hQ2]
                                  show zW E (d - 1) 181 6 [(2, 69), (0, i37)] [(0, x43)] m23 Q1
                                  refine zw_40_4 zr_181_6 ?_ ?_
                                  · intro h44
                                    refine zw_push zr_181_22 ?_
                                    refine zw_R zr_181_23 (by decide) zm_181 (v := (0, 0)) (zRetB (by omega)) ?_
                                    rw [← hQ1]
                                    show zW E (d) 191 105 [(2, 69), (0, a0), (0, a1), (0, a2), (0, i28), (0, i35), (0, i30), (0, i36), (0, i37), (9, 0)] [(0, 0)] m23 Q
                                    refine zw_40_1 zr_191_105 ?_ ?_
                                    · intro h45
                                      refine zw_15 (c := 1) (L' := [(2, 69), (0, a0), (0, a1), (0, a2), (0, i28), (0, i35), (0, i30), (0, i36), (0, (i37 + 1)), (9, 0)]) zr_191_179 rfl (by decide) (by omega) rfl ?_
                                      refine zw_42 zr_191_182 ?_
                                      exact zw_less (L := [(2, 69), (0, a0), (0, a1), (0, a2), (0, i28), (0, i35), (0, i30), (0, i36), (0, (i37 + 1)), (9, 0)]) ⟨Or.inr rfl, Or.inr rfl, Or.inr rfl, Or.inr rfl, Or.inr rfl, Or.inr rfl, Or.inr rfl, Or.inr rfl, Or.inr rfl, Or.inl rfl, trivial⟩ (ihlp90_38 (i35) (i36) ((i37 + 1))  (by omega) (by omega) (by omega) (by omega) (by omega) (by omega)  (by omega))
                                    · intro h46; omega
                                  · intro h47
                                    refine zw_7 zr_181_9 rfl ?_
                                    refine zw_3 zr_181_10 rfl ?_
                                    refine zw_push zr_181_11 ?_
                                    refine zw_C zr_181_12 (Or.inl rfl) zm_144 rfl rfl ⟨Nat.le_of_ble_eq_true rfl, Nat.le_of_ble_eq_true rfl, Nat.le_of_ble_eq_true rfl, rfl, by decide⟩ (by omega) (P := (fun v m' => zW E (d - 1) 181 15 [(2, 69), (0, i37)] (if v.1 = 9 then [] else v :: []) m' Q1)) ?_ (fun _ _ h => h)
                                    generalize hQ2 : (fun v m' => zW E (d - 1) 181 15 [(2, 69), (0, i37)] (if v.1 = 9 then [] else v :: []) m' Q1) = Q2
                                    show zW E (d - 1 - 1) 144 0 [(2, 69), (0, i37), (0, 5)] [] m23 Q2
                                    refine zw_7 zr_144_0 rfl ?_
                                    refine zw_46r (s := 70) zr_144_1 rfl rfl rfl rfl ?_
                                    refine zw_push zr_144_4 ?_
                                    refine zw_push zr_144_6 ?_
                                    refine zw_3 zr_144_8 rfl ?_
                                    refine zw_18 zr_144_9 (by omega) ?_
                                    refine zw_16 zr_144_10 (by omega) ?_
                                    refine zw_3 zr_144_11 rfl ?_
                                    refine zw_16 zr_144_12 (by omega) ?_
                                    refine zw_48 (c := 70) (len := 826) zr_144_13 rfl rfl (by omega) (by omega) ?_
                                    intro x48 ex48
                                    have bx48 := ib_70_m5 hIm23 (k := (((90 + (6 * i37)) + 5)).toNat) (by omega)
                                    rw [← ex48] at bx48
                                    refine zw_R zr_144_14 (by decide) zm_144 (v := (0, x48)) rfl ?_
                                    rw [← hQ2]
                                    show zW E (d - 1) 181 15 [(2, 69), (0, i37)] [(0, x48)] m23 Q1
                                    refine zw_40_4 zr_181_15 ?_ ?_
                                    · intro h49
                                      refine zw_push zr_181_22 ?_
                                      refine zw_R zr_181_23 (by decide) zm_181 (v := (0, 0)) (zRetB (by omega)) ?_
                                      rw [← hQ1]
                                      show zW E (d) 191 105 [(2, 69), (0, a0), (0, a1), (0, a2), (0, i28), (0, i35), (0, i30), (0, i36), (0, i37), (9, 0)] [(0, 0)] m23 Q
                                      refine zw_40_1 zr_191_105 ?_ ?_
                                      · intro h50
                                        refine zw_15 (c := 1) (L' := [(2, 69), (0, a0), (0, a1), (0, a2), (0, i28), (0, i35), (0, i30), (0, i36), (0, (i37 + 1)), (9, 0)]) zr_191_179 rfl (by decide) (by omega) rfl ?_
                                        refine zw_42 zr_191_182 ?_
                                        exact zw_less (L := [(2, 69), (0, a0), (0, a1), (0, a2), (0, i28), (0, i35), (0, i30), (0, i36), (0, (i37 + 1)), (9, 0)]) ⟨Or.inr rfl, Or.inr rfl, Or.inr rfl, Or.inr rfl, Or.inr rfl, Or.inr rfl, Or.inr rfl, Or.inr rfl, Or.inr rfl, Or.inl rfl, trivial⟩ (ihlp90_38 (i35) (i36) ((i37 + 1))  (by omega) (by omega) (by omega) (by omega) (by omega) (by omega)  (by omega))
                                      · intro h51; omega
                                    · intro h52
                                      refine zw_push zr_181_18 ?_
                                      refine zw_42 zr_181_19 ?_
                                      refine zw_R zr_181_23 (by decide) zm_181 (v := (0, 1)) (zRetB (by omega)) ?_
                                      rw [← hQ1]
                                      show zW E (d) 191 105 [(2, 69), (0, a0), (0, a1), (0, a2), (0, i28), (0, i35), (0, i30), (0, i36), (0, i37), (9, 0)] [(0, 1)] m23 Q
                                      refine zw_40_1 zr_191_105 ?_ ?_
                                      · intro h53; omega
                                      · intro h54
                                        refine zw_7 zr_191_108 rfl ?_
                                        refine zw_4 zr_191_109 rfl ?_
                                        refine zw_4 zr_191_111 rfl ?_
                                        refine zw_C zr_191_113 (Or.inl rfl) zm_171 rfl rfl ⟨Nat.le_of_ble_eq_true rfl, Nat.le_of_ble_eq_true rfl, Nat.le_of_ble_eq_true rfl, rfl, by decide⟩ (by omega) (P := (fun v m' => zW E (d) 191 116 [(2, 69), (0, a0), (0, a1), (0, a2), (0, i28), (0, i35), (0, i30), (0, i36), (0, i37), (9, 0)] (if v.1 = 9 then [] else v :: []) m' Q)) ?_ (fun _ _ h => h)
                                        generalize hQ1 : (fun v m' => zW E (d) 191 116 [(2, 69), (0, a0), (0, a1), (0, a2), (0, i28), (0, i35), (0, i30), (0, i36), (0, i37), (9, 0)] (if v.1 = 9 then [] else v :: []) m' Q) = Q1
                                        show zW E (d - 1) 171 0 [(2, 69), (0, i37), (0, i28)] [] m23 Q1
                                        refine zw_7 zr_171_0 rfl ?_
                                        refine zw_3 zr_171_1 rfl ?_
                                        refine zw_push zr_171_2 ?_
                                        refine zw_C zr_171_3 (Or.inl rfl) zm_144 rfl rfl ⟨Nat.le_of_ble_eq_true rfl, Nat.le_of_ble_eq_true rfl, Nat.le_of_ble_eq_true rfl, rfl, by decide⟩ (by omega) (P := (fun v m' => zW E (d - 1) 171 6 [(2, 69), (0, i37), (0, i28)] (if v.1 = 9 then [] else v :: []) m' Q1)) ?_ (fun _ _ h => h)
                                        generalize hQ2 : (fun v m' => zW E (d - 1) 171 6 [(2, 69), (0, i37), (0, i28)] (if v.1 = 9 then [] else v :: []) m' Q1) = Q2
                                        show zW E (d - 1 - 1) 144 0 [(2, 69), (0, i37), (0, 1)] [] m23 Q2
                                        refine zw_7 zr_144_0 rfl ?_
                                        refine zw_46r (s := 70) zr_144_1 rfl rfl rfl rfl ?_
                                        refine zw_push zr_144_4 ?_
                                        refine zw_push zr_144_6 ?_
                                        refine zw_3 zr_144_8 rfl ?_
                                        refine zw_18 zr_144_9 (by omega) ?_
                                        refine zw_16 zr_144_10 (by omega) ?_
                                        refine zw_3 zr_144_11 rfl ?_
                                        refine zw_16 zr_144_12 (by omega) ?_
                                        refine zw_48 (c := 70) (len := 826) zr_144_13 rfl rfl (by omega) (by omega) ?_
                                        intro x55 ex55
                                        have bx55 := ib_70_m1 hIm23 (k := (((90 + (6 * i37)) + 1)).toNat) (by omega)
                                        rw [← ex55] at bx55
                                        refine zw_R zr_144_14 (by decide) zm_144 (v := (0, x55)) rfl ?_
                                        rw [← hQ2]
                                        show zW E (d - 1) 171 6 [(2, 69), (0, i37), (0, i28)] [(0, x55)] m23 Q1
                                        refine zw_3 zr_171_6 rfl ?_
                                        refine zw_41_1 zr_171_7 ?_ ?_
                                        · intro h56
                                          refine zw_push zr_171_20 ?_
                                          refine zw_42 zr_171_21 ?_
                                          refine zw_R zr_171_25 (by decide) zm_171 (v := (0, 1)) (zRetB (by omega)) ?_
                                          rw [← hQ1]
                                          show zW E (d) 191 116 [(2, 69), (0, a0), (0, a1), (0, a2), (0, i28), (0, i35), (0, i30), (0, i36), (0, i37), (9, 0)] [(0, 1)] m23 Q
                                          refine zw_40_1 zr_191_116 ?_ ?_
                                          · intro h57; omega
                                          · intro h58
                                            refine zw_7 zr_191_119 rfl ?_
                                            refine zw_4 zr_191_120 rfl ?_
                                            refine zw_push zr_191_122 ?_
                                            refine zw_C zr_191_123 (Or.inl rfl) zm_144 rfl rfl ⟨Nat.le_of_ble_eq_true rfl, Nat.le_of_ble_eq_true rfl, Nat.le_of_ble_eq_true rfl, rfl, by decide⟩ (by omega) (P := (fun v m' => zW E (d) 191 126 [(2, 69), (0, a0), (0, a1), (0, a2), (0, i28), (0, i35), (0, i30), (0, i36), (0, i37), (9, 0)] (if v.1 = 9 then [] else v :: []) m' Q)) ?_ (fun _ _ h => h)
                                            generalize hQ1 : (fun v m' => zW E (d) 191 126 [(2, 69), (0, a0), (0, a1), (0, a2), (0, i28), (0, i35), (0, i30), (0, i36), (0, i37), (9, 0)] (if v.1 = 9 then [] else v :: []) m' Q) = Q1
                                            show zW E (d - 1) 144 0 [(2, 69), (0, i37), (0, 1)] [] m23 Q1
                                            refine zw_7 zr_144_0 rfl ?_
                                            refine zw_46r (s := 70) zr_144_1 rfl rfl rfl rfl ?_
                                            refine zw_push zr_144_4 ?_
                                            refine zw_push zr_144_6 ?_
                                            refine zw_3 zr_144_8 rfl ?_
                                            refine zw_18 zr_144_9 (by omega) ?_
                                            refine zw_16 zr_144_10 (by omega) ?_
                                            refine zw_3 zr_144_11 rfl ?_
                                            refine zw_16 zr_144_12 (by omega) ?_
                                            refine zw_48k (c := 70) (len := 826) zr_144_13 rfl rfl (by omega) (by omega) rfl ex55.symm ?_
                                            refine zw_R zr_144_14 (by decide) zm_144 (v := (0, x55)) rfl ?_
                                            rw [← hQ1]
                                            show zW E (d) 191 126 [(2, 69), (0, a0), (0, a1), (0, a2), (0, i28), (0, i35), (0, i30), (0, i36), (0, i37), (9, 0)] [(0, x55)] m23 Q
                                            refine zw_7 zr_191_126 rfl ?_
                                            refine zw_4 zr_191_127 rfl ?_
                                            refine zw_push zr_191_129 ?_
                                            refine zw_C zr_191_130 (Or.inl rfl) zm_144 rfl rfl ⟨Nat.le_of_ble_eq_true rfl, Nat.le_of_ble_eq_true rfl, Nat.le_of_ble_eq_true rfl, rfl, by decide⟩ (by omega) (P := (fun v m' => zW E (d) 191 133 [(2, 69), (0, a0), (0, a1), (0, a2), (0, i28), (0, i35), (0, i30), (0, i36), (0, i37), (9, 0)] (if v.1 = 9 then [(0, x55)] else v :: [(0, x55)]) m' Q)) ?_ (fun _ _ h => h)
                                            generalize hQ1 : (fun v m' => zW E (d) 191 133 [(2, 69), (0, a0), (0, a1), (0, a2), (0, i28), (0, i35), (0, i30), (0, i36), (0, i37), (9, 0)] (if v.1 = 9 then [(0, x55)] else v :: [(0, x55)]) m' Q) = Q1
                                            show zW E (d - 1) 144 0 [(2, 69), (0, i37), (0, 2)] [] m23 Q1
                                            refine zw_7 zr_144_0 rfl ?_
                                            refine zw_46r (s := 70) zr_144_1 rfl rfl rfl rfl ?_
                                            refine zw_push zr_144_4 ?_
                                            refine zw_push zr_144_6 ?_
                                            refine zw_3 zr_144_8 rfl ?_
                                            refine zw_18 zr_144_9 (by omega) ?_
                                            refine zw_16 zr_144_10 (by omega) ?_
                                            refine zw_3 zr_144_11 rfl ?_
                                            refine zw_16 zr_144_12 (by omega) ?_
                                            refine zw_48 (c := 70) (len := 826) zr_144_13 rfl rfl (by omega) (by omega) ?_
                                            intro x59 ex59
                                            have bx59 := ib_70_m2 hIm23 (k := (((90 + (6 * i37)) + 2)).toNat) (by omega)
                                            rw [← ex59] at bx59
                                            clear ex59
                                            refine zw_R zr_144_14 (by decide) zm_144 (v := (0, x59)) rfl ?_
                                            rw [← hQ1]
                                            show zW E (d) 191 133 [(2, 69), (0, a0), (0, a1), (0, a2), (0, i28), (0, i35), (0, i30), (0, i36), (0, i37), (9, 0)] [(0, x59), (0, x55)] m23 Q
                                            refine zw_16 zr_191_133 (by omega) ?_
                                            refine zw_4 zr_191_134 rfl ?_
                                            refine zw_17 zr_191_136 (by omega) ?_
                                            refine zw_10 (L' := [(2, 69), (0, a0), (0, a1), (0, a2), (0, i28), (0, i35), (0, i30), (0, i36), (0, i37), (0, ((x55 + x59) - i28))]) zr_191_137 (Nat.le_of_ble_eq_true rfl) rfl ?_
                                            refine zw_7 zr_191_139 rfl ?_
                                            refine zw_46r (s := 81) zr_191_140 rfl rfl rfl rfl ?_
                                            refine zw_4 zr_191_143 rfl ?_
                                            refine zw_48 (c := 81) (len := 10) zr_191_145 rfl rfl (by omega) (by omega) ?_
                                            intro x60 ex60
                                            have bx60 := ib_81 hIm23 (k := (((x55 + x59) - i28)).toNat) (by omega)
                                            rw [← ex60] at bx60
                                            clear ex60
                                            refine zw_7 zr_191_146 rfl ?_
                                            refine zw_46r (s := 81) zr_191_147 rfl rfl rfl rfl ?_
                                            refine zw_4 zr_191_150 rfl ?_
                                            refine zw_48 (c := 81) (len := 10) zr_191_152 rfl rfl (by omega) (by omega) ?_
                                            intro x61 ex61
                                            have bx61 := ib_81 hIm23 (k := (i28).toNat) (by omega)
                                            rw [← ex61] at bx61
                                            clear ex61
                                            refine zw_push zr_191_153 ?_
                                            refine zw_17 zr_191_154 (by omega) ?_
                                            refine zw_41_4 zr_191_155 ?_ ?_
                                            · intro h62
                                              refine zw_15 (c := 1) (L' := [(2, 69), (0, a0), (0, a1), (0, a2), (0, i28), (0, i35), (0, i30), (0, i36), (0, (i37 + 1)), (0, ((x55 + x59) - i28))]) zr_191_179 rfl (by decide) (by omega) rfl ?_
                                              refine zw_42 zr_191_182 ?_
                                              exact zw_less (L := [(2, 69), (0, a0), (0, a1), (0, a2), (0, i28), (0, i35), (0, i30), (0, i36), (0, (i37 + 1)), (9, 0)]) ⟨Or.inr rfl, Or.inr rfl, Or.inr rfl, Or.inr rfl, Or.inr rfl, Or.inr rfl, Or.inr rfl, Or.inr rfl, Or.inr rfl, Or.inl rfl, trivial⟩ (ihlp90_38 (i35) (i36) ((i37 + 1))  (by omega) (by omega) (by omega) (by omega) (by omega) (by omega)  (by omega))
                                            · intro h63
                                              refine zw_4 zr_191_158 rfl ?_
                                              refine zw_push zr_191_160 ?_
                                              refine zw_41_1 zr_191_161 ?_ ?_
                                              · intro h64
                                                refine zw_4 zr_191_171 rfl ?_
                                                refine zw_10 (L' := [(2, 69), (0, a0), (0, a1), (0, a2), (0, i28), (0, i35), (0, i30), (0, ((x55 + x59) - i28)), (0, i37), (0, ((x55 + x59) - i28))]) zr_191_173 (Nat.le_of_ble_eq_true rfl) rfl ?_
                                                refine zw_4 zr_191_175 rfl ?_
                                                refine zw_10 (L' := [(2, 69), (0, a0), (0, a1), (0, a2), (0, i28), (0, i37), (0, i30), (0, ((x55 + x59) - i28)), (0, i37), (0, ((x55 + x59) - i28))]) zr_191_177 (Nat.le_of_ble_eq_true rfl) rfl ?_
                                                refine zw_15 (c := 1) (L' := [(2, 69), (0, a0), (0, a1), (0, a2), (0, i28), (0, i37), (0, i30), (0, ((x55 + x59) - i28)), (0, (i37 + 1)), (0, ((x55 + x59) - i28))]) zr_191_179 rfl (by decide) (by omega) rfl ?_
                                                refine zw_42 zr_191_182 ?_
                                                exact zw_less (L := [(2, 69), (0, a0), (0, a1), (0, a2), (0, i28), (0, i37), (0, i30), (0, ((x55 + x59) - i28)), (0, (i37 + 1)), (9, 0)]) ⟨Or.inr rfl, Or.inr rfl, Or.inr rfl, Or.inr rfl, Or.inr rfl, Or.inr rfl, Or.inr rfl, Or.inr rfl, Or.inr rfl, Or.inl rfl, trivial⟩ (ihlp90_38 (i37) (((x55 + x59) - i28)) ((i37 + 1))  (by omega) (by omega) (by omega) (by omega) (by omega) (by omega)  (by omega))
                                              · intro h65
                                                refine zw_4 zr_191_164 rfl ?_
                                                refine zw_4 zr_191_166 rfl ?_
                                                refine zw_41_3 zr_191_168 ?_ ?_
                                                · intro h66
                                                  refine zw_15 (c := 1) (L' := [(2, 69), (0, a0), (0, a1), (0, a2), (0, i28), (0, i35), (0, i30), (0, i36), (0, (i37 + 1)), (0, ((x55 + x59) - i28))]) zr_191_179 rfl (by decide) (by omega) rfl ?_
                                                  refine zw_42 zr_191_182 ?_
                                                  exact zw_less (L := [(2, 69), (0, a0), (0, a1), (0, a2), (0, i28), (0, i35), (0, i30), (0, i36), (0, (i37 + 1)), (9, 0)]) ⟨Or.inr rfl, Or.inr rfl, Or.inr rfl, Or.inr rfl, Or.inr rfl, Or.inr rfl, Or.inr rfl, Or.inr rfl, Or.inr rfl, Or.inl rfl, trivial⟩ (ihlp90_38 (i35) (i36) ((i37 + 1))  (by omega) (by omega) (by omega) (by omega) (by omega) (by omega)  (by omega))
                                                · intro h67
                                                  refine zw_4 zr_191_171 rfl ?_
                                                  refine zw_10 (L' := [(2, 69), (0, a0), (0, a1), (0, a2), (0, i28), (0, i35), (0, i30), (0, ((x55 + x59) - i28)), (0, i37), (0, ((x55 + x59) - i28))]) zr_191_173 (Nat.le_of_ble_eq_true rfl) rfl ?_
                                                  refine zw_4 zr_191_175 rfl ?_
                                                  refine zw_10 (L' := [(2, 69), (0, a0), (0, a1), (0, a2), (0, i28), (0, i37), (0, i30), (0, ((x55 + x59) - i28)), (0, i37), (0, ((x55 + x59) - i28))]) zr_191_177 (Nat.le_of_ble_eq_true rfl) rfl ?_
                                                  refine zw_15 (c := 1) (L' := [(2, 69), (0, a0), (0, a1), (0, a2), (0, i28), (0, i37), (0, i30), (0, ((x55 + x59) - i28)), (0, (i37 + 1)), (0, ((x55 + x59) - i28))]) zr_191_179 rfl (by decide) (by omega) rfl ?_
                                                  refine zw_42 zr_191_182 ?_
                                                  exact zw_less (L := [(2, 69), (0, a0), (0, a1), (0, a2), (0, i28), (0, i37), (0, i30), (0, ((x55 + x59) - i28)), (0, (i37 + 1)), (9, 0)]) ⟨Or.inr rfl, Or.inr rfl, Or.inr rfl, Or.inr rfl, Or.inr rfl, Or.inr rfl, Or.inr rfl, Or.inr rfl, Or.inr rfl, Or.inl rfl, trivial⟩ (ihlp90_38 (i37) (((x55 + x59) - i28)) ((i37 + 1))  (by omega) (by omega) (by omega) (by omega) (by omega) (by omega)  (by omega))
                                        · intro h68
                                          refine zw_7 zr_171_10 rfl ?_
                                          refine zw_3 zr_171_11 rfl ?_
                                          refine zw_push zr_171_12 ?_
                                          refine zw_C zr_171_13 (Or.inl rfl) zm_144 rfl rfl ⟨Nat.le_of_ble_eq_true rfl, Nat.le_of_ble_eq_true rfl, Nat.le_of_ble_eq_true rfl, rfl, by decide⟩ (by omega) (P := (fun v m' => zW E (d - 1) 171 16 [(2, 69), (0, i37), (0, i28)] (if v.1 = 9 then [] else v :: []) m' Q1)) ?_ (fun _ _ h => h)
                                          generalize hQ2 : (fun v m' => zW E (d - 1) 171 16 [(2, 69), (0, i37), (0, i28)] (if v.1 = 9 then [] else v :: []) m' Q1) = Q2
                                          show zW E (d - 1 - 1) 144 0 [(2, 69), (0, i37), (0, 2)] [] m23 Q2
                                          refine zw_7 zr_144_0 rfl ?_
                                          refine zw_46r (s := 70) zr_144_1 rfl rfl rfl rfl ?_
                                          refine zw_push zr_144_4 ?_
                                          refine zw_push zr_144_6 ?_
                                          refine zw_3 zr_144_8 rfl ?_
                                          refine zw_18 zr_144_9 (by omega) ?_
                                          refine zw_16 zr_144_10 (by omega) ?_
                                          refine zw_3 zr_144_11 rfl ?_
                                          refine zw_16 zr_144_12 (by omega) ?_
                                          refine zw_48 (c := 70) (len := 826) zr_144_13 rfl rfl (by omega) (by omega) ?_
                                          intro x69 ex69
                                          have bx69 := ib_70_m2 hIm23 (k := (((90 + (6 * i37)) + 2)).toNat) (by omega)
                                          rw [← ex69] at bx69
                                          refine zw_R zr_144_14 (by decide) zm_144 (v := (0, x69)) rfl ?_
                                          rw [← hQ2]
                                          show zW E (d - 1) 171 16 [(2, 69), (0, i37), (0, i28)] [(0, x69)] m23 Q1
                                          refine zw_3 zr_171_16 rfl ?_
                                          refine zw_41_4 zr_171_17 ?_ ?_
                                          · intro h70
                                            refine zw_push zr_171_24 ?_
                                            refine zw_R zr_171_25 (by decide) zm_171 (v := (0, 0)) (zRetB (by omega)) ?_
                                            rw [← hQ1]
                                            show zW E (d) 191 116 [(2, 69), (0, a0), (0, a1), (0, a2), (0, i28), (0, i35), (0, i30), (0, i36), (0, i37), (9, 0)] [(0, 0)] m23 Q
                                            refine zw_40_1 zr_191_116 ?_ ?_
                                            · intro h71
                                              refine zw_15 (c := 1) (L' := [(2, 69), (0, a0), (0, a1), (0, a2), (0, i28), (0, i35), (0, i30), (0, i36), (0, (i37 + 1)), (9, 0)]) zr_191_179 rfl (by decide) (by omega) rfl ?_
                                              refine zw_42 zr_191_182 ?_
                                              exact zw_less (L := [(2, 69), (0, a0), (0, a1), (0, a2), (0, i28), (0, i35), (0, i30), (0, i36), (0, (i37 + 1)), (9, 0)]) ⟨Or.inr rfl, Or.inr rfl, Or.inr rfl, Or.inr rfl, Or.inr rfl, Or.inr rfl, Or.inr rfl, Or.inr rfl, Or.inr rfl, Or.inl rfl, trivial⟩ (ihlp90_38 (i35) (i36) ((i37 + 1))  (by omega) (by omega) (by omega) (by omega) (by omega) (by omega)  (by omega))
                                            · intro h72; omega
                                          · intro h73
                                            refine zw_push zr_171_20 ?_
                                            refine zw_42 zr_171_21 ?_
                                            refine zw_R zr_171_25 (by decide) zm_171 (v := (0, 1)) (zRetB (by omega)) ?_
                                            rw [← hQ1]
                                            show zW E (d) 191 116 [(2, 69), (0, a0), (0, a1), (0, a2), (0, i28), (0, i35), (0, i30), (0, i36), (0, i37), (9, 0)] [(0, 1)] m23 Q
                                            refine zw_40_1 zr_191_116 ?_ ?_
                                            · intro h74; omega
                                            · intro h75
                                              refine zw_7 zr_191_119 rfl ?_
                                              refine zw_4 zr_191_120 rfl ?_
                                              refine zw_push zr_191_122 ?_
                                              refine zw_C zr_191_123 (Or.inl rfl) zm_144 rfl rfl ⟨Nat.le_of_ble_eq_true rfl, Nat.le_of_ble_eq_true rfl, Nat.le_of_ble_eq_true rfl, rfl, by decide⟩ (by omega) (P := (fun v m' => zW E (d) 191 126 [(2, 69), (0, a0), (0, a1), (0, a2), (0, i28), (0, i35), (0, i30), (0, i36), (0, i37), (9, 0)] (if v.1 = 9 then [] else v :: []) m' Q)) ?_ (fun _ _ h => h)
                                              generalize hQ1 : (fun v m' => zW E (d) 191 126 [(2, 69), (0, a0), (0, a1), (0, a2), (0, i28), (0, i35), (0, i30), (0, i36), (0, i37), (9, 0)] (if v.1 = 9 then [] else v :: []) m' Q) = Q1
                                              show zW E (d - 1) 144 0 [(2, 69), (0, i37), (0, 1)] [] m23 Q1
                                              refine zw_7 zr_144_0 rfl ?_
                                              refine zw_46r (s := 70) zr_144_1 rfl rfl rfl rfl ?_
                                              refine zw_push zr_144_4 ?_
                                              refine zw_push zr_144_6 ?_
                                              refine zw_3 zr_144_8 rfl ?_
                                              refine zw_18 zr_144_9 (by omega) ?_
                                              refine zw_16 zr_144_10 (by omega) ?_
                                              refine zw_3 zr_144_11 rfl ?_
                                              refine zw_16 zr_144_12 (by omega) ?_
                                              refine zw_48k (c := 70) (len := 826) zr_144_13 rfl rfl (by omega) (by omega) rfl ex55.symm ?_
                                              refine zw_R zr_144_14 (by decide) zm_144 (v := (0, x55)) rfl ?_
                                              rw [← hQ1]
                                              show zW E (d) 191 126 [(2, 69), (0, a0), (0, a1), (0, a2), (0, i28), (0, i35), (0, i30), (0, i36), (0, i37), (9, 0)] [(0, x55)] m23 Q
                                              refine zw_7 zr_191_126 rfl ?_
                                              refine zw_4 zr_191_127 rfl ?_
                                              refine zw_push zr_191_129 ?_
                                              refine zw_C zr_191_130 (Or.inl rfl) zm_144 rfl rfl ⟨Nat.le_of_ble_eq_true rfl, Nat.le_of_ble_eq_true rfl, Nat.le_of_ble_eq_true rfl, rfl, by decide⟩ (by omega) (P := (fun v m' => zW E (d) 191 133 [(2, 69), (0, a0), (0, a1), (0, a2), (0, i28), (0, i35), (0, i30), (0, i36), (0, i37), (9, 0)] (if v.1 = 9 then [(0, x55)] else v :: [(0, x55)]) m' Q)) ?_ (fun _ _ h => h)
                                              generalize hQ1 : (fun v m' => zW E (d) 191 133 [(2, 69), (0, a0), (0, a1), (0, a2), (0, i28), (0, i35), (0, i30), (0, i36), (0, i37), (9, 0)] (if v.1 = 9 then [(0, x55)] else v :: [(0, x55)]) m' Q) = Q1
                                              show zW E (d - 1) 144 0 [(2, 69), (0, i37), (0, 2)] [] m23 Q1
                                              refine zw_7 zr_144_0 rfl ?_
                                              refine zw_46r (s := 70) zr_144_1 rfl rfl rfl rfl ?_
                                              refine zw_push zr_144_4 ?_
                                              refine zw_push zr_144_6 ?_
                                              refine zw_3 zr_144_8 rfl ?_
                                              refine zw_18 zr_144_9 (by omega) ?_
                                              refine zw_16 zr_144_10 (by omega) ?_
                                              refine zw_3 zr_144_11 rfl ?_
                                              refine zw_16 zr_144_12 (by omega) ?_
                                              refine zw_48k (c := 70) (len := 826) zr_144_13 rfl rfl (by omega) (by omega) rfl ex69.symm ?_
                                              refine zw_R zr_144_14 (by decide) zm_144 (v := (0, x69)) rfl ?_
                                              rw [← hQ1]
                                              show zW E (d) 191 133 [(2, 69), (0, a0), (0, a1), (0, a2), (0, i28), (0, i35), (0, i30), (0, i36), (0, i37), (9, 0)] [(0, x69), (0, x55)] m23 Q
                                              refine zw_16 zr_191_133 (by omega) ?_
                                              refine zw_4 zr_191_134 rfl ?_
                                              refine zw_17 zr_191_136 (by omega) ?_
                                              refine zw_10 (L' := [(2, 69), (0, a0), (0, a1), (0, a2), (0, i28), (0, i35), (0, i30), (0, i36), (0, i37), (0, ((x55 + x69) - i28))]) zr_191_137 (Nat.le_of_ble_eq_true rfl) rfl ?_
                                              refine zw_7 zr_191_139 rfl ?_
                                              refine zw_46r (s := 81) zr_191_140 rfl rfl rfl rfl ?_
                                              refine zw_4 zr_191_143 rfl ?_
                                              refine zw_48 (c := 81) (len := 10) zr_191_145 rfl rfl (by omega) (by omega) ?_
                                              intro x76 ex76
                                              have bx76 := ib_81 hIm23 (k := (((x55 + x69) - i28)).toNat) (by omega)
                                              rw [← ex76] at bx76
                                              clear ex76
                                              refine zw_7 zr_191_146 rfl ?_
                                              refine zw_46r (s := 81) zr_191_147 rfl rfl rfl rfl ?_
                                              refine zw_4 zr_191_150 rfl ?_
                                              refine zw_48 (c := 81) (len := 10) zr_191_152 rfl rfl (by omega) (by omega) ?_
                                              intro x77 ex77
                                              have bx77 := ib_81 hIm23 (k := (i28).toNat) (by omega)
                                              rw [← ex77] at bx77
                                              clear ex77
                                              refine zw_push zr_191_153 ?_
                                              refine zw_17 zr_191_154 (by omega) ?_
                                              refine zw_41_4 zr_191_155 ?_ ?_
                                              · intro h78
                                                refine zw_15 (c := 1) (L' := [(2, 69), (0, a0), (0, a1), (0, a2), (0, i28), (0, i35), (0, i30), (0, i36), (0, (i37 + 1)), (0, ((x55 + x69) - i28))]) zr_191_179 rfl (by decide) (by omega) rfl ?_
                                                refine zw_42 zr_191_182 ?_
                                                exact zw_less (L := [(2, 69), (0, a0), (0, a1), (0, a2), (0, i28), (0, i35), (0, i30), (0, i36), (0, (i37 + 1)), (9, 0)]) ⟨Or.inr rfl, Or.inr rfl, Or.inr rfl, Or.inr rfl, Or.inr rfl, Or.inr rfl, Or.inr rfl, Or.inr rfl, Or.inr rfl, Or.inl rfl, trivial⟩ (ihlp90_38 (i35) (i36) ((i37 + 1))  (by omega) (by omega) (by omega) (by omega) (by omega) (by omega)  (by omega))
                                              · intro h79
                                                refine zw_4 zr_191_158 rfl ?_
                                                refine zw_push zr_191_160 ?_
                                                refine zw_41_1 zr_191_161 ?_ ?_
                                                · intro h80
                                                  refine zw_4 zr_191_171 rfl ?_
                                                  refine zw_10 (L' := [(2, 69), (0, a0), (0, a1), (0, a2), (0, i28), (0, i35), (0, i30), (0, ((x55 + x69) - i28)), (0, i37), (0, ((x55 + x69) - i28))]) zr_191_173 (Nat.le_of_ble_eq_true rfl) rfl ?_
                                                  refine zw_4 zr_191_175 rfl ?_
                                                  refine zw_10 (L' := [(2, 69), (0, a0), (0, a1), (0, a2), (0, i28), (0, i37), (0, i30), (0, ((x55 + x69) - i28)), (0, i37), (0, ((x55 + x69) - i28))]) zr_191_177 (Nat.le_of_ble_eq_true rfl) rfl ?_
                                                  refine zw_15 (c := 1) (L' := [(2, 69), (0, a0), (0, a1), (0, a2), (0, i28), (0, i37), (0, i30), (0, ((x55 + x69) - i28)), (0, (i37 + 1)), (0, ((x55 + x69) - i28))]) zr_191_179 rfl (by decide) (by omega) rfl ?_
                                                  refine zw_42 zr_191_182 ?_
                                                  exact zw_less (L := [(2, 69), (0, a0), (0, a1), (0, a2), (0, i28), (0, i37), (0, i30), (0, ((x55 + x69) - i28)), (0, (i37 + 1)), (9, 0)]) ⟨Or.inr rfl, Or.inr rfl, Or.inr rfl, Or.inr rfl, Or.inr rfl, Or.inr rfl, Or.inr rfl, Or.inr rfl, Or.inr rfl, Or.inl rfl, trivial⟩ (ihlp90_38 (i37) (((x55 + x69) - i28)) ((i37 + 1))  (by omega) (by omega) (by omega) (by omega) (by omega) (by omega)  (by omega))
                                                · intro h81
                                                  refine zw_4 zr_191_164 rfl ?_
                                                  refine zw_4 zr_191_166 rfl ?_
                                                  refine zw_41_3 zr_191_168 ?_ ?_
                                                  · intro h82
                                                    refine zw_15 (c := 1) (L' := [(2, 69), (0, a0), (0, a1), (0, a2), (0, i28), (0, i35), (0, i30), (0, i36), (0, (i37 + 1)), (0, ((x55 + x69) - i28))]) zr_191_179 rfl (by decide) (by omega) rfl ?_
                                                    refine zw_42 zr_191_182 ?_
                                                    exact zw_less (L := [(2, 69), (0, a0), (0, a1), (0, a2), (0, i28), (0, i35), (0, i30), (0, i36), (0, (i37 + 1)), (9, 0)]) ⟨Or.inr rfl, Or.inr rfl, Or.inr rfl, Or.inr rfl, Or.inr rfl, Or.inr rfl, Or.inr rfl, Or.inr rfl, Or.inr rfl, Or.inl rfl, trivial⟩ (ihlp90_38 (i35) (i36) ((i37 + 1))  (by omega) (by omega) (by omega) (by omega) (by omega) (by omega)  (by omega))
                                                  · intro h83
                                                    refine zw_4 zr_191_171 rfl ?_
                                                    refine zw_10 (L' := [(2, 69), (0, a0), (0, a1), (0, a2), (0, i28), (0, i35), (0, i30), (0, ((x55 + x69) - i28)), (0, i37), (0, ((x55 + x69) - i28))]) zr_191_173 (Nat.le_of_ble_eq_true rfl) rfl ?_
                                                    refine zw_4 zr_191_175 rfl ?_
                                                    refine zw_10 (L' := [(2, 69), (0, a0), (0, a1), (0, a2), (0, i28), (0, i37), (0, i30), (0, ((x55 + x69) - i28)), (0, i37), (0, ((x55 + x69) - i28))]) zr_191_177 (Nat.le_of_ble_eq_true rfl) rfl ?_
                                                    refine zw_15 (c := 1) (L' := [(2, 69), (0, a0), (0, a1), (0, a2), (0, i28), (0, i37), (0, i30), (0, ((x55 + x69) - i28)), (0, (i37 + 1)), (0, ((x55 + x69) - i28))]) zr_191_179 rfl (by decide) (by omega) rfl ?_
                                                    refine zw_42 zr_191_182 ?_
                                                    exact zw_less (L := [(2, 69), (0, a0), (0, a1), (0, a2), (0, i28), (0, i37), (0, i30), (0, ((x55 + x69) - i28)), (0, (i37 + 1)), (9, 0)]) ⟨Or.inr rfl, Or.inr rfl, Or.inr rfl, Or.inr rfl, Or.inr rfl, Or.inr rfl, Or.inr rfl, Or.inr rfl, Or.inr rfl, Or.inl rfl, trivial⟩ (ihlp90_38 (i37) (((x55 + x69) - i28)) ((i37 + 1))  (by omega) (by omega) (by omega) (by omega) (by omega) (by omega)  (by omega))
                            exact lp90_38 _ (i29) ((-1)) (0)  (by omega) (by omega) (by omega) (by omega) (by omega) (by omega)  (Nat.lt_succ_self _)
                      exact lp78_31 _ (a0) ((-1)) (0)  (by omega) (by omega) (by omega) (by omega) (by omega) (by omega)  (Nat.lt_succ_self _)
                    · intro h84
                      refine zw_push zr_191_66 ?_
                      refine zw_R zr_191_68 (by decide) zm_191 (v := (0, (-5))) rfl ?_
                      rw [← hQ]; exact ⟨_, rfl, by omega, by omega, hIm23, hFm23⟩
                  · intro h85
                    refine zw_7 zr_191_49 rfl ?_
                    refine zw_46r (s := 81) zr_191_50 rfl rfl rfl rfl ?_
                    refine zw_3 zr_191_53 rfl ?_
                    refine zw_48k (c := 81) (len := 10) zr_191_54 rfl rfl (by omega) (by omega) rfl ex24.symm ?_
                    refine zw_R zr_191_55 (by decide) zm_191 (v := (0, x24)) rfl ?_
                    rw [← hQ]; exact ⟨_, rfl, by omega, by omega, hIm23, hFm23⟩
                · intro h86
                  refine zw_push zr_191_41 ?_
                  refine zw_R zr_191_43 (by decide) zm_191 (v := (0, (-5))) rfl ?_
                  rw [← hQ]; exact ⟨_, rfl, by omega, by omega, hIm23, hFm23⟩
              · intro h87
                refine zw_push zr_191_21 ?_
                refine zw_R zr_191_23 (by decide) zm_191 (v := (0, (-10))) rfl ?_
                rw [← hQ]; exact ⟨_, rfl, by omega, by omega, hI0, hF0⟩

abbrev W_76 : List (Nat × Nat) := [(61, 1000), (62, 1000)]
set_option maxHeartbeats 8000000 in
theorem th_76 {E : zE} {d : Nat} {m0 : zM} (hd : 3 ≤ d) (hI0 : zInv m0) : zC E d 76 [(2, 60)] m0 (fun v m' => ∃ r : Int, v = (1, r) ∧ (-9223372036854775808) ≤ r ∧ r ≤ 9223372036854775807 ∧ zInv m' ∧ zFr W_76 m0 m') := by
  have hF0 : zFr W_76 m0 m0 := zFr.rfl
  generalize hQ : (fun (v : zV) (m' : zM) => ∃ r : Int, v = (1, r) ∧ (-9223372036854775808) ≤ r ∧ r ≤ 9223372036854775807 ∧ zInv m' ∧ zFr W_76 m0 m') = Q
  show zW E d 76 0 [(2, 60), (9, 0), (9, 0), (9, 0), (9, 0), (9, 0), (9, 0), (9, 0)] [] m0 Q
  refine zw_7 zr_76_0 rfl ?_
  refine zw_46r (s := 1) zr_76_1 rfl rfl rfl rfl ?_
  refine zw_C zr_76_4 (Or.inl rfl) zm_53 rfl rfl ⟨Nat.le_of_ble_eq_true rfl, Nat.le_of_ble_eq_true rfl, Nat.le_of_ble_eq_true rfl, rfl, by decide⟩ (by omega) (th_53 (d := d - 1) (by omega) hI0        ) ?_
  rintro _ _ ⟨r1, rfl, hr1a, hr1b, rfl⟩
  show zW E (d) 76 7 [(2, 60), (9, 0), (9, 0), (9, 0), (9, 0), (9, 0), (9, 0), (9, 0)] [(1, r1)] m0 Q
  refine zw_13 (L' := [(2, 60), (1, r1), (9, 0), (9, 0), (9, 0), (9, 0), (9, 0), (9, 0)]) zr_76_7 (Nat.le_of_ble_eq_true rfl) rfl ?_
  refine zw_push zr_76_8 ?_
  refine zw_13 (L' := [(2, 60), (1, r1), (9, 0), (1, 0), (9, 0), (9, 0), (9, 0), (9, 0)]) zr_76_9 (Nat.le_of_ble_eq_true rfl) rfl ?_
  refine zw_push zr_76_10 ?_
  refine zw_10 (L' := [(2, 60), (1, r1), (9, 0), (1, 0), (9, 0), (0, 0), (9, 0), (9, 0)]) zr_76_11 (Nat.le_of_ble_eq_true rfl) rfl ?_
  have lp13_5 : ∀ (nlp13_5 : Nat) (i2 i3 : Int) (m4 : zM), zInv m4 → zFr W_76 m0 m4 → (-9223372036854775808) ≤ i2 → i2 ≤ 9223372036854775807 → 0 ≤ i3 → i3 ≤ 60 → (60 - i3).toNat < nlp13_5 → zW E (d) 76 13 [(2, 60), (1, r1), (9, 0), (1, i2), (9, 0), (0, i3), (9, 0), (9, 0)] [] m4 Q := by
    intro nlp13_5
    induction nlp13_5 with
    | zero =>
      intros
      exact absurd (by assumption : _ < 0) (Nat.not_lt_zero _)
    | succ nlp13_5 ihlp13_5 =>
      intro i2 i3 m4 hIm4 hFm4 li2 ui2 li3 ui3 hmlp13_5
      refine zw_4 zr_76_13 rfl ?_
      refine zw_7 zr_76_15 rfl ?_
      refine zw_46r (s := 1) zr_76_16 rfl rfl rfl rfl ?_
      obtain ⟨f7, ef7⟩ : ∃ v, m4 1 1 = v := ⟨_, rfl⟩
      have bf7 := ib_1_1 hIm4
      rw [ef7] at bf7
      refine zw_46i zr_76_19 ef7 rfl rfl rfl ?_
      refine zw_41_3 zr_76_22 ?_ ?_
      · intro h8
        refine zw_5 zr_76_100 rfl ?_
        refine zw_R zr_76_101 (by decide) zm_76 (v := (1, i2)) rfl ?_
        rw [← hQ]; exact ⟨_, rfl, by omega, by omega, hIm4, hFm4⟩
      · intro h9
        refine zw_push zr_76_25 ?_
        refine zw_4 zr_76_26 rfl ?_
        refine zw_33p zr_76_28 (by omega) ?_
        intro x10 ex10 hx10a hx10b
        refine zw_14 (L' := [(2, 60), (1, r1), (9, 0), (1, i2), (9, 0), (0, i3), (1, x10), (9, 0)]) zr_76_29 (Nat.le_of_ble_eq_true rfl) rfl ?_
        refine zw_5 zr_76_31 rfl ?_
        refine zw_6 zr_76_32 rfl ?_
        refine zw_30h zr_76_34 ?_
        intro x11 hx11a hx11b
        refine zw_push zr_76_35 ?_
        refine zw_39_1 zr_76_36 zr_76_37 ?_ ?_
        · intro h12
          refine zw_15 (c := 1) (L' := [(2, 60), (1, r1), (9, 0), (1, i2), (9, 0), (0, (i3 + 1)), (1, x10), (9, 0)]) zr_76_94 rfl (by decide) (by omega) rfl ?_
          refine zw_42 zr_76_97 ?_
          exact zw_less (L := [(2, 60), (1, r1), (9, 0), (1, i2), (9, 0), (0, (i3 + 1)), (9, 0), (9, 0)]) ⟨Or.inr rfl, Or.inr rfl, Or.inl rfl, Or.inr rfl, Or.inl rfl, Or.inr rfl, Or.inl rfl, Or.inl rfl, trivial⟩ (ihlp13_5 (i2) ((i3 + 1)) m4 hIm4 hFm4   (by omega) (by omega) (by omega) (by omega)  (by omega))
        · intro h13
          refine zw_7 zr_76_40 rfl ?_
          refine zw_5 zr_76_41 rfl ?_
          refine zw_6 zr_76_42 rfl ?_
          refine zw_push zr_76_44 ?_
          refine zw_32h zr_76_47 ?_
          intro x14 hx14a hx14b
          refine zw_30h zr_76_48 ?_
          intro x15 hx15a hx15b
          refine zw_C zr_76_49 (Or.inl rfl) zm_66 rfl rfl ⟨Nat.le_of_ble_eq_true rfl, Nat.le_of_ble_eq_true rfl, Nat.le_of_ble_eq_true rfl, rfl, by decide⟩ (by omega) (th_66 (d := d - 1) (by omega) hIm4 (a0 := x15)      (by omega) ) ?_
          rintro _ m16 ⟨rfl, hIm16, gm16⟩
          have hFm16 : zFr W_76 m0 m16 := hFm4.trans gm16 rfl
          have km16_1_1 : m16 1 1 = f7 := (gm16 1 1 rfl).trans ef7
          show zW E (d) 76 52 [(2, 60), (1, r1), (9, 0), (1, i2), (9, 0), (0, i3), (1, x10), (9, 0)] [] m16 Q
          refine zw_7 zr_76_52 rfl ?_
          refine zw_7 zr_76_53 rfl ?_
          refine zw_46r (s := 1) zr_76_54 rfl rfl rfl rfl ?_
          refine zw_46r (s := 6) zr_76_57 rfl rfl rfl rfl ?_
          refine zw_4 zr_76_60 rfl ?_
          refine zw_48 (c := 6) (len := 60) zr_76_62 rfl rfl (by omega) (by omega) ?_
          intro x17 ex17
          have bx17 := ib_6 hIm16 (k := (i3).toNat) (by omega)
          rw [← ex17] at bx17
          clear ex17
          refine zw_C zr_76_63 (Or.inl rfl) zm_67 rfl rfl ⟨Nat.le_of_ble_eq_true rfl, Nat.le_of_ble_eq_true rfl, Nat.le_of_ble_eq_true rfl, rfl, by decide⟩ (by omega) (th_67 (d := d - 1) (by omega) hIm16 (a0 := x17)      (by omega) ) ?_
          rintro _ m18 ⟨rfl, hIm18, gm18⟩
          have hFm18 : zFr W_76 m0 m18 := hFm16.trans gm18 rfl
          have km18_1_1 : m18 1 1 = f7 := (gm18 1 1 rfl).trans km16_1_1
          show zW E (d) 76 66 [(2, 60), (1, r1), (9, 0), (1, i2), (9, 0), (0, i3), (1, x10), (9, 0)] [] m18 Q
          refine zw_5 zr_76_66 rfl ?_
          refine zw_7 zr_76_67 rfl ?_
          refine zw_46r (s := 62) zr_76_68 rfl rfl rfl rfl ?_
          refine zw_7 zr_76_71 rfl ?_
          refine zw_46r (s := 1) zr_76_72 rfl rfl rfl rfl ?_
          refine zw_46r (s := 7) zr_76_75 rfl rfl rfl rfl ?_
          refine zw_4 zr_76_78 rfl ?_
          refine zw_48 (c := 7) (len := 60) zr_76_80 rfl rfl (by omega) (by omega) ?_
          intro x19 ex19
          have bx19 := ib_7 hIm18 (k := (i3).toNat) (by omega)
          rw [← ex19] at bx19
          clear ex19
          refine zw_48 (c := 62) (len := 10) zr_76_81 rfl rfl (by omega) (by omega) ?_
          intro x20 ex20
          have bx20 := hIm18.ra (c := 62) (len := 10) (k := (x19).toNat) rfl (by omega)
          rw [← ex20] at bx20
          clear ex20
          refine zw_push zr_76_82 ?_
          refine zw_41_4 zr_76_83 ?_ ?_
          · intro h21
            refine zw_push zr_76_91 ?_
            refine zw_31h zr_76_92 ?_
            intro x22 hx22a hx22b
            refine zw_13 (L' := [(2, 60), (1, r1), (9, 0), (1, x22), (9, 0), (0, i3), (1, x10), (9, 0)]) zr_76_93 (Nat.le_of_ble_eq_true rfl) rfl ?_
            refine zw_15 (c := 1) (L' := [(2, 60), (1, r1), (9, 0), (1, x22), (9, 0), (0, (i3 + 1)), (1, x10), (9, 0)]) zr_76_94 rfl (by decide) (by omega) rfl ?_
            refine zw_42 zr_76_97 ?_
            exact zw_less (L := [(2, 60), (1, r1), (9, 0), (1, x22), (9, 0), (0, (i3 + 1)), (9, 0), (9, 0)]) ⟨Or.inr rfl, Or.inr rfl, Or.inl rfl, Or.inr rfl, Or.inl rfl, Or.inr rfl, Or.inl rfl, Or.inl rfl, trivial⟩ (ihlp13_5 (x22) ((i3 + 1)) m18 hIm18 hFm18   (by omega) (by omega) (by omega) (by omega)  (by omega))
          · intro h23
            refine zw_6 zr_76_86 rfl ?_
            refine zw_42 zr_76_88 ?_
            refine zw_31h zr_76_92 ?_
            intro x24 hx24a hx24b
            refine zw_13 (L' := [(2, 60), (1, r1), (9, 0), (1, x24), (9, 0), (0, i3), (1, x10), (9, 0)]) zr_76_93 (Nat.le_of_ble_eq_true rfl) rfl ?_
            refine zw_15 (c := 1) (L' := [(2, 60), (1, r1), (9, 0), (1, x24), (9, 0), (0, (i3 + 1)), (1, x10), (9, 0)]) zr_76_94 rfl (by decide) (by omega) rfl ?_
            refine zw_42 zr_76_97 ?_
            exact zw_less (L := [(2, 60), (1, r1), (9, 0), (1, x24), (9, 0), (0, (i3 + 1)), (9, 0), (9, 0)]) ⟨Or.inr rfl, Or.inr rfl, Or.inl rfl, Or.inr rfl, Or.inl rfl, Or.inr rfl, Or.inl rfl, Or.inl rfl, trivial⟩ (ihlp13_5 (x24) ((i3 + 1)) m18 hIm18 hFm18   (by omega) (by omega) (by omega) (by omega)  (by omega))
  exact lp13_5 _ (0) (0) m0 hI0 hF0   (by omega) (by omega) (by omega) (by omega)  (Nat.lt_succ_self _)

abbrev W_122 : List (Nat × Nat) := [(61, 1000), (62, 1000)]
set_option maxHeartbeats 8000000 in
theorem th_122 {E : zE} {d : Nat} {m0 : zM} (hd : 4 ≤ d) (hI0 : zInv m0) : zC E d 122 [(2, 0)] m0 (fun v m' => ∃ r : Int, v = (1, r) ∧ (-9223372036854775808) ≤ r ∧ r ≤ 9223372036854775807 ∧ zInv m' ∧ zFr W_122 m0 m') := by
  have hF0 : zFr W_122 m0 m0 := zFr.rfl
  generalize hQ : (fun (v : zV) (m' : zM) => ∃ r : Int, v = (1, r) ∧ (-9223372036854775808) ≤ r ∧ r ≤ 9223372036854775807 ∧ zInv m' ∧ zFr W_122 m0 m') = Q
  show zW E d 122 0 [(2, 0)] [] m0 Q
  refine zw_7 zr_122_0 rfl ?_
  refine zw_46r (s := 60) zr_122_1 rfl rfl rfl rfl ?_
  refine zw_C zr_122_4 (Or.inl rfl) zm_76 rfl rfl ⟨Nat.le_of_ble_eq_true rfl, Nat.le_of_ble_eq_true rfl, Nat.le_of_ble_eq_true rfl, rfl, by decide⟩ (by omega) (th_76 (d := d - 1) (by omega) hI0        ) ?_
  rintro _ m1 ⟨r2, rfl, hr2a, hr2b, hIm1, gm1⟩
  have hFm1 : zFr W_122 m0 m1 := hF0.trans gm1 rfl
  show zW E (d) 122 7 [(2, 0)] [(1, r2)] m1 Q
  refine zw_R zr_122_7 (by decide) zm_122 (v := (1, r2)) rfl ?_
  rw [← hQ]; exact ⟨_, rfl, by omega, by omega, hIm1, hFm1⟩

abbrev W_192 : List (Nat × Nat) := [(81, 1000)]
set_option maxHeartbeats 8000000 in
theorem th_192 {E : zE} {d : Nat} {m0 : zM} (hd : 4 ≤ d) (hI0 : zInv m0) : zC E d 192 [(2, 69)] m0 (fun v m' => ∃ r : Int, v = (1, r) ∧ (-9223372036854775808) ≤ r ∧ r ≤ 9223372036854775807 ∧ zInv m' ∧ zFr W_192 m0 m') := by
  have hF0 : zFr W_192 m0 m0 := zFr.rfl
  generalize hQ : (fun (v : zV) (m' : zM) => ∃ r : Int, v = (1, r) ∧ (-9223372036854775808) ≤ r ∧ r ≤ 9223372036854775807 ∧ zInv m' ∧ zFr W_192 m0 m') = Q
  show zW E d 192 0 [(2, 69), (9, 0), (9, 0), (9, 0)] [] m0 Q
  refine zw_push zr_192_0 ?_
  refine zw_13 (L' := [(2, 69), (1, 0), (9, 0), (9, 0)]) zr_192_1 (Nat.le_of_ble_eq_true rfl) rfl ?_
  refine zw_push zr_192_2 ?_
  refine zw_9 (L' := [(2, 69), (1, 0), (9, 0), (0, 0)]) zr_192_3 (Nat.le_of_ble_eq_true rfl) rfl ?_
  have lp4_4 : ∀ (nlp4_4 : Nat) (i1 i2 : Int) (m3 : zM), zInv m3 → zFr W_192 m0 m3 → (-9223372036854775808) ≤ i1 → i1 ≤ 9223372036854775807 → 0 ≤ i2 → i2 ≤ 60 → (60 - i2).toNat < nlp4_4 → zW E (d) 192 4 [(2, 69), (1, i1), (9, 0), (0, i2)] [] m3 Q := by
    intro nlp4_4
    induction nlp4_4 with
    | zero =>
      intros
      exact absurd (by assumption : _ < 0) (Nat.not_lt_zero _)
    | succ nlp4_4 ihlp4_4 =>
      intro i1 i2 m3 hIm3 hFm3 li1 ui1 li2 ui2 hmlp4_4
      refine zw_3 zr_192_4 rfl ?_
      refine zw_7 zr_192_5 rfl ?_
      refine zw_C zr_192_6 (Or.inl rfl) zm_142 rfl rfl ⟨Nat.le_of_ble_eq_true rfl, Nat.le_of_ble_eq_true rfl, Nat.le_of_ble_eq_true rfl, rfl, by decide⟩ (by omega) (P := (fun v m' => zW E (d) 192 9 [(2, 69), (1, i1), (9, 0), (0, i2)] (if v.1 = 9 then [(0, i2)] else v :: [(0, i2)]) m' Q)) ?_ (fun _ _ h => h)
      generalize hQ1 : (fun v m' => zW E (d) 192 9 [(2, 69), (1, i1), (9, 0), (0, i2)] (if v.1 = 9 then [(0, i2)] else v :: [(0, i2)]) m' Q) = Q1
      show zW E (d - 1) 142 0 [(2, 69)] [] m3 Q1
      refine zw_7 zr_142_0 rfl ?_
      refine zw_46r (s := 70) zr_142_1 rfl rfl rfl rfl ?_
      refine zw_push zr_142_4 ?_
      obtain ⟨f6, ef6⟩ : ∃ v, m3 70 823 = v := ⟨_, rfl⟩
      have bf6 : 0 ≤ m3 70 823 ∧ m3 70 823 ≤ 60 := ib_70_meetings hIm3 (by omega)
      rw [ef6] at bf6
      refine zw_48k (c := 70) (len := 826) zr_142_7 rfl rfl (by omega) (by omega) (show (823 : Int).toNat = 823 by omega) ef6 ?_
      refine zw_R zr_142_8 (by decide) zm_142 (v := (0, f6)) rfl ?_
      rw [← hQ1]
      show zW E (d) 192 9 [(2, 69), (1, i1), (9, 0), (0, i2)] [(0, f6), (0, i2)] m3 Q
      refine zw_41_3 zr_192_9 ?_ ?_
      · intro h7
        refine zw_5 zr_192_63 rfl ?_
        refine zw_R zr_192_64 (by decide) zm_192 (v := (1, i1)) rfl ?_
        rw [← hQ]; exact ⟨_, rfl, by omega, by omega, hIm3, hFm3⟩
      · intro h8
        refine zw_7 zr_192_12 rfl ?_
        refine zw_3 zr_192_13 rfl ?_
        refine zw_C zr_192_14 (Or.inl rfl) zm_181 rfl rfl ⟨Nat.le_of_ble_eq_true rfl, Nat.le_of_ble_eq_true rfl, Nat.le_of_ble_eq_true rfl, rfl, by decide⟩ (by omega) (P := (fun v m' => zW E (d) 192 17 [(2, 69), (1, i1), (9, 0), (0, i2)] (if v.1 = 9 then [] else v :: []) m' Q)) ?_ (fun _ _ h => h)
        generalize hQ1 : (fun v m' => zW E (d) 192 17 [(2, 69), (1, i1), (9, 0), (0, i2)] (if v.1 = 9 then [] else v :: []) m' Q) = Q1
        show zW E (d - 1) 181 0 [(2, 69), (0, i2)] [] m3 Q1
        refine zw_7 zr_181_0 rfl ?_
        refine zw_3 zr_181_1 rfl ?_
        refine zw_push zr_181_2 ?_
        refine zw_C zr_181_3 (Or.inl rfl) zm_144 rfl rfl ⟨Nat.le_of_ble_eq_true rfl, Nat.le_of_ble_eq_true rfl, Nat.le_of_ble_eq_true rfl, rfl, by decide⟩ (by omega) (P := (fun v m' => zW E (d - 1) 181 6 [(2, 69), (0, i2)] (if v.1 = 9 then [] else v :: []) m' Q1)) ?_ (fun _ _ h => h)
        generalize hQ2 : (fun v m' => zW E (d - 1) 181 6 [(2, 69), (0, i2)] (if v.1 = 9 then [] else v :: []) m' Q1) = Q2
        show zW E (d - 1 - 1) 144 0 [(2, 69), (0, i2), (0, 4)] [] m3 Q2
        refine zw_7 zr_144_0 rfl ?_
        refine zw_46r (s := 70) zr_144_1 rfl rfl rfl rfl ?_
        refine zw_push zr_144_4 ?_
        refine zw_push zr_144_6 ?_
        refine zw_3 zr_144_8 rfl ?_
        refine zw_18 zr_144_9 (by omega) ?_
        refine zw_16 zr_144_10 (by omega) ?_
        refine zw_3 zr_144_11 rfl ?_
        refine zw_16 zr_144_12 (by omega) ?_
        refine zw_48 (c := 70) (len := 826) zr_144_13 rfl rfl (by omega) (by omega) ?_
        intro x9 ex9
        have bx9 := ib_70_m4 hIm3 (k := (((90 + (6 * i2)) + 4)).toNat) (by omega)
        rw [← ex9] at bx9
        clear ex9
        refine zw_R zr_144_14 (by decide) zm_144 (v := (0, x9)) rfl ?_
        rw [← hQ2]
        show zW E (d - 1) 181 6 [(2, 69), (0, i2)] [(0, x9)] m3 Q1
        refine zw_40_4 zr_181_6 ?_ ?_
        · intro h10
          refine zw_push zr_181_22 ?_
          refine zw_R zr_181_23 (by decide) zm_181 (v := (0, 0)) (zRetB (by omega)) ?_
          rw [← hQ1]
          show zW E (d) 192 17 [(2, 69), (1, i1), (9, 0), (0, i2)] [(0, 0)] m3 Q
          refine zw_40_1 zr_192_17 ?_ ?_
          · intro h11
            refine zw_15 (c := 1) (L' := [(2, 69), (1, i1), (9, 0), (0, (i2 + 1))]) zr_192_57 rfl (by decide) (by omega) rfl ?_
            refine zw_42 zr_192_60 ?_
            exact zw_less (L := [(2, 69), (1, i1), (9, 0), (0, (i2 + 1))]) ⟨Or.inr rfl, Or.inr rfl, Or.inl rfl, Or.inr rfl, trivial⟩ (ihlp4_4 (i1) ((i2 + 1)) m3 hIm3 hFm3   (by omega) (by omega) (by omega) (by omega)  (by omega))
          · intro h12; omega
        · intro h13
          refine zw_7 zr_181_9 rfl ?_
          refine zw_3 zr_181_10 rfl ?_
          refine zw_push zr_181_11 ?_
          refine zw_C zr_181_12 (Or.inl rfl) zm_144 rfl rfl ⟨Nat.le_of_ble_eq_true rfl, Nat.le_of_ble_eq_true rfl, Nat.le_of_ble_eq_true rfl, rfl, by decide⟩ (by omega) (P := (fun v m' => zW E (d - 1) 181 15 [(2, 69), (0, i2)] (if v.1 = 9 then [] else v :: []) m' Q1)) ?_ (fun _ _ h => h)
          generalize hQ2 : (fun v m' => zW E (d - 1) 181 15 [(2, 69), (0, i2)] (if v.1 = 9 then [] else v :: []) m' Q1) = Q2
          show zW E (d - 1 - 1) 144 0 [(2, 69), (0, i2), (0, 5)] [] m3 Q2
          refine zw_7 zr_144_0 rfl ?_
          refine zw_46r (s := 70) zr_144_1 rfl rfl rfl rfl ?_
          refine zw_push zr_144_4 ?_
          refine zw_push zr_144_6 ?_
          refine zw_3 zr_144_8 rfl ?_
          refine zw_18 zr_144_9 (by omega) ?_
          refine zw_16 zr_144_10 (by omega) ?_
          refine zw_3 zr_144_11 rfl ?_
          refine zw_16 zr_144_12 (by omega) ?_
          refine zw_48 (c := 70) (len := 826) zr_144_13 rfl rfl (by omega) (by omega) ?_
          intro x14 ex14
          have bx14 := ib_70_m5 hIm3 (k := (((90 + (6 * i2)) + 5)).toNat) (by omega)
          rw [← ex14] at bx14
          clear ex14
          refine zw_R zr_144_14 (by decide) zm_144 (v := (0, x14)) rfl ?_
          rw [← hQ2]
          show zW E (d - 1) 181 15 [(2, 69), (0, i2)] [(0, x14)] m3 Q1
          refine zw_40_4 zr_181_15 ?_ ?_
          · intro h15
            refine zw_push zr_181_22 ?_
            refine zw_R zr_181_23 (by decide) zm_181 (v := (0, 0)) (zRetB (by omega)) ?_
            rw [← hQ1]
            show zW E (d) 192 17 [(2, 69), (1, i1), (9, 0), (0, i2)] [(0, 0)] m3 Q
            refine zw_40_1 zr_192_17 ?_ ?_
            · intro h16
              refine zw_15 (c := 1) (L' := [(2, 69), (1, i1), (9, 0), (0, (i2 + 1))]) zr_192_57 rfl (by decide) (by omega) rfl ?_
              refine zw_42 zr_192_60 ?_
              exact zw_less (L := [(2, 69), (1, i1), (9, 0), (0, (i2 + 1))]) ⟨Or.inr rfl, Or.inr rfl, Or.inl rfl, Or.inr rfl, trivial⟩ (ihlp4_4 (i1) ((i2 + 1)) m3 hIm3 hFm3   (by omega) (by omega) (by omega) (by omega)  (by omega))
            · intro h17; omega
          · intro h18
            refine zw_push zr_181_18 ?_
            refine zw_42 zr_181_19 ?_
            refine zw_R zr_181_23 (by decide) zm_181 (v := (0, 1)) (zRetB (by omega)) ?_
            rw [← hQ1]
            show zW E (d) 192 17 [(2, 69), (1, i1), (9, 0), (0, i2)] [(0, 1)] m3 Q
            refine zw_40_1 zr_192_17 ?_ ?_
            · intro h19; omega
            · intro h20
              refine zw_7 zr_192_20 rfl ?_
              refine zw_7 zr_192_21 rfl ?_
              refine zw_3 zr_192_22 rfl ?_
              refine zw_push zr_192_23 ?_
              refine zw_C zr_192_24 (Or.inl rfl) zm_144 rfl rfl ⟨Nat.le_of_ble_eq_true rfl, Nat.le_of_ble_eq_true rfl, Nat.le_of_ble_eq_true rfl, rfl, by decide⟩ (by omega) (P := (fun v m' => zW E (d) 192 27 [(2, 69), (1, i1), (9, 0), (0, i2)] (if v.1 = 9 then [(2, 69)] else v :: [(2, 69)]) m' Q)) ?_ (fun _ _ h => h)
              generalize hQ1 : (fun v m' => zW E (d) 192 27 [(2, 69), (1, i1), (9, 0), (0, i2)] (if v.1 = 9 then [(2, 69)] else v :: [(2, 69)]) m' Q) = Q1
              show zW E (d - 1) 144 0 [(2, 69), (0, i2), (0, 1)] [] m3 Q1
              refine zw_7 zr_144_0 rfl ?_
              refine zw_46r (s := 70) zr_144_1 rfl rfl rfl rfl ?_
              refine zw_push zr_144_4 ?_
              refine zw_push zr_144_6 ?_
              refine zw_3 zr_144_8 rfl ?_
              refine zw_18 zr_144_9 (by omega) ?_
              refine zw_16 zr_144_10 (by omega) ?_
              refine zw_3 zr_144_11 rfl ?_
              refine zw_16 zr_144_12 (by omega) ?_
              refine zw_48 (c := 70) (len := 826) zr_144_13 rfl rfl (by omega) (by omega) ?_
              intro x21 ex21
              have bx21 := ib_70_m1 hIm3 (k := (((90 + (6 * i2)) + 1)).toNat) (by omega)
              rw [← ex21] at bx21
              clear ex21
              refine zw_R zr_144_14 (by decide) zm_144 (v := (0, x21)) rfl ?_
              rw [← hQ1]
              show zW E (d) 192 27 [(2, 69), (1, i1), (9, 0), (0, i2)] [(0, x21), (2, 69)] m3 Q
              refine zw_3 zr_192_27 rfl ?_
              refine zw_C zr_192_28 (Or.inl rfl) zm_188 rfl rfl ⟨Nat.le_of_ble_eq_true rfl, Nat.le_of_ble_eq_true rfl, Nat.le_of_ble_eq_true rfl, rfl, by decide⟩ (by omega) (th_188 (d := d - 1) (by omega) hIm3 (a0 := x21) (a1 := i2)      (by omega) (by omega) ) ?_
              rintro _ m22 ⟨rfl, hIm22, gm22, po0_m22⟩
              have hFm22 : zFr W_192 m0 m22 := hFm3.trans gm22 rfl
              have km22_70_823 : m22 70 823 = f6 := (gm22 70 823 rfl).trans ef6
              show zW E (d) 192 31 [(2, 69), (1, i1), (9, 0), (0, i2)] [] m22 Q
              refine zw_5 zr_192_31 rfl ?_
              refine zw_7 zr_192_32 rfl ?_
              refine zw_46r (s := 81) zr_192_33 rfl rfl rfl rfl ?_
              refine zw_7 zr_192_36 rfl ?_
              refine zw_3 zr_192_37 rfl ?_
              refine zw_push zr_192_38 ?_
              refine zw_C zr_192_39 (Or.inl rfl) zm_144 rfl rfl ⟨Nat.le_of_ble_eq_true rfl, Nat.le_of_ble_eq_true rfl, Nat.le_of_ble_eq_true rfl, rfl, by decide⟩ (by omega) (P := (fun v m' => zW E (d) 192 42 [(2, 69), (1, i1), (9, 0), (0, i2)] (if v.1 = 9 then [(2, 81), (1, i1)] else v :: [(2, 81), (1, i1)]) m' Q)) ?_ (fun _ _ h => h)
              generalize hQ1 : (fun v m' => zW E (d) 192 42 [(2, 69), (1, i1), (9, 0), (0, i2)] (if v.1 = 9 then [(2, 81), (1, i1)] else v :: [(2, 81), (1, i1)]) m' Q) = Q1
              show zW E (d - 1) 144 0 [(2, 69), (0, i2), (0, 2)] [] m22 Q1
              refine zw_7 zr_144_0 rfl ?_
              refine zw_46r (s := 70) zr_144_1 rfl rfl rfl rfl ?_
              refine zw_push zr_144_4 ?_
              refine zw_push zr_144_6 ?_
              refine zw_3 zr_144_8 rfl ?_
              refine zw_18 zr_144_9 (by omega) ?_
              refine zw_16 zr_144_10 (by omega) ?_
              refine zw_3 zr_144_11 rfl ?_
              refine zw_16 zr_144_12 (by omega) ?_
              refine zw_48 (c := 70) (len := 826) zr_144_13 rfl rfl (by omega) (by omega) ?_
              intro x23 ex23
              have bx23 := ib_70_m2 hIm22 (k := (((90 + (6 * i2)) + 2)).toNat) (by omega)
              rw [← ex23] at bx23
              clear ex23
              refine zw_R zr_144_14 (by decide) zm_144 (v := (0, x23)) rfl ?_
              rw [← hQ1]
              show zW E (d) 192 42 [(2, 69), (1, i1), (9, 0), (0, i2)] [(0, x23), (2, 81), (1, i1)] m22 Q
              refine zw_48 (c := 81) (len := 10) zr_192_42 rfl rfl (by omega) (by omega) ?_
              intro x24 ex24
              have bx24 := ib_81 hIm22 (k := (x23).toNat) (by omega)
              rw [← ex24] at bx24
              clear ex24
              refine zw_push zr_192_43 ?_
              refine zw_41_0 zr_192_45 ?_ ?_
              · intro h25
                refine zw_push zr_192_54 ?_
                refine zw_31h zr_192_55 ?_
                intro x26 hx26a hx26b
                refine zw_13 (L' := [(2, 69), (1, x26), (9, 0), (0, i2)]) zr_192_56 (Nat.le_of_ble_eq_true rfl) rfl ?_
                refine zw_15 (c := 1) (L' := [(2, 69), (1, x26), (9, 0), (0, (i2 + 1))]) zr_192_57 rfl (by decide) (by omega) rfl ?_
                refine zw_42 zr_192_60 ?_
                exact zw_less (L := [(2, 69), (1, x26), (9, 0), (0, (i2 + 1))]) ⟨Or.inr rfl, Or.inr rfl, Or.inl rfl, Or.inr rfl, trivial⟩ (ihlp4_4 (x26) ((i2 + 1)) m22 hIm22 hFm22   (by omega) (by omega) (by omega) (by omega)  (by omega))
              · intro h27
                refine zw_push zr_192_48 ?_
                refine zw_3 zr_192_49 rfl ?_
                refine zw_33p zr_192_50 (by omega) ?_
                intro x28 ex28 hx28a hx28b
                refine zw_42 zr_192_51 ?_
                refine zw_31h zr_192_55 ?_
                intro x29 hx29a hx29b
                refine zw_13 (L' := [(2, 69), (1, x29), (9, 0), (0, i2)]) zr_192_56 (Nat.le_of_ble_eq_true rfl) rfl ?_
                refine zw_15 (c := 1) (L' := [(2, 69), (1, x29), (9, 0), (0, (i2 + 1))]) zr_192_57 rfl (by decide) (by omega) rfl ?_
                refine zw_42 zr_192_60 ?_
                exact zw_less (L := [(2, 69), (1, x29), (9, 0), (0, (i2 + 1))]) ⟨Or.inr rfl, Or.inr rfl, Or.inl rfl, Or.inr rfl, trivial⟩ (ihlp4_4 (x29) ((i2 + 1)) m22 hIm22 hFm22   (by omega) (by omega) (by omega) (by omega)  (by omega))
  exact lp4_4 _ (0) (0) m0 hI0 hF0   (by omega) (by omega) (by omega) (by omega)  (Nat.lt_succ_self _)

abbrev W_4_54 : List (Nat × Nat) := [(54, 1000)]
set_option maxHeartbeats 8000000 in
theorem th_4_54 {E : zE} {d : Nat} {m0 : zM} {a0 : Int} {F54 : Nat → Int} (hd : 1 ≤ d) (hI0 : zInv m0) (hG54 : m0 54 = F54) (ha0 : 0 ≤ a0 ∧ a0 ≤ 0) : zC E d 4 [(2, 54), (0, a0)] m0 (fun v m' => v = (9, 0) ∧ zInv m' ∧ zFr W_4_54 m0 m' ∧ (zFil (m' 54) 10 a0)) := by
  have hF0 : zFr W_4_54 m0 m0 := zFr.rfl
  generalize hQ : (fun (v : zV) (m' : zM) => v = (9, 0) ∧ zInv m' ∧ zFr W_4_54 m0 m' ∧ (zFil (m' 54) 10 a0)) = Q
  show zW E d 4 0 [(2, 54), (0, a0), (9, 0), (9, 0)] [] m0 Q
  refine zw_push zr_4_0 ?_
  refine zw_9 (L' := [(2, 54), (0, a0), (0, 0), (9, 0)]) zr_4_1 (Nat.le_of_ble_eq_true rfl) rfl ?_
  refine zw_7 zr_4_2 rfl ?_
  refine zw_101 (c := 54) (len := 10) zr_4_3 rfl rfl (by decide) ?_
  refine zw_9 (L' := [(2, 54), (0, a0), (0, 0), (0, 10)]) zr_4_4 (Nat.le_of_ble_eq_true rfl) rfl ?_
  have lp5_4 : ∀ (nlp5_4 : Nat) (i1 : Int) (f3 : Nat → Int) (m2 : zM), zInv m2 → zFr W_4_54 m0 m2 → m2 54 = f3 → 0 ≤ i1 → i1 ≤ 10 → (zFil f3 i1 a0) → (10 - i1).toNat < nlp5_4 → zW E (d) 4 5 [(2, 54), (0, a0), (0, i1), (0, 10)] [] m2 Q := by
    intro nlp5_4
    induction nlp5_4 with
    | zero =>
      intros
      exact absurd (by assumption : _ < 0) (Nat.not_lt_zero _)
    | succ nlp5_4 ihlp5_4 =>
      intro i1 f3 m2 hIm2 hFm2 fm2_54 li1 ui1 hv0lp5_4 hmlp5_4
      refine zw_3 zr_4_5 rfl ?_
      refine zw_3 zr_4_6 rfl ?_
      refine zw_41_3 zr_4_7 ?_ ?_
      · intro h6
        refine zw_R zr_4_20 (by decide) zm_4 (v := (9, 0)) rfl ?_
        rw [← hQ]; exact ⟨rfl, hIm2, hFm2, by rw [fm2_54]; exact zFil_le hv0lp5_4 (by omega)⟩
      · intro h8
        refine zw_7 zr_4_10 rfl ?_
        refine zw_3 zr_4_11 rfl ?_
        refine zw_3 zr_4_12 rfl ?_
        refine zw_49 (c := 54) (len := 10) zr_4_13 rfl rfl (by omega) (by omega) ?_
        intro m9 em9
        have hIm9 : zInv m9 := by rw [em9]; exact iu_54 hIm2 (by omega)
        have hFm9 : zFr W_4_54 m0 m9 := by rw [em9]; exact hFm2.any rfl
        have fm9_54 : m9 54 = zPt f3 ((i1).toNat) a0 := by rw [em9]; exact (zUp_ff (m := m2)).trans (congrArg (fun q => zPt q ((i1).toNat) a0) fm2_54)
        clear em9
        refine zw_15 (c := 1) (L' := [(2, 54), (0, a0), (0, (i1 + 1)), (0, 10)]) zr_4_14 rfl (by decide) (by omega) rfl ?_
        refine zw_42 zr_4_17 ?_
        exact zw_less (L := [(2, 54), (0, a0), (0, (i1 + 1)), (0, 10)]) ⟨Or.inr rfl, Or.inr rfl, Or.inr rfl, Or.inr rfl, trivial⟩ (ihlp5_4 ((i1 + 1)) (zPt f3 ((i1).toNat) a0) m9 hIm9 hFm9   fm9_54 (by omega) (by omega) (zFil_put hv0lp5_4 (by omega)) (by omega))
  exact lp5_4 _ (0) (F54) m0 hI0 hF0  hG54 (by omega) (by omega) (zFil_0) (Nat.lt_succ_self _)

abbrev W_31 : List (Nat × Nat) := [(52, 0), (52, 1), (52, 2)]
set_option maxHeartbeats 8000000 in
theorem th_31 {E : zE} {d : Nat} {m0 : zM} {a0 : Int} {a1 : Int} {a2 : Int} (hd : 1 ≤ d) (hI0 : zInv m0) (ha0 : 0 ≤ a0 ∧ a0 ≤ 9) (ha1 : (-2147483648) ≤ a1 ∧ a1 ≤ 2147483647) (ha2 : 0 ≤ a2 ∧ a2 ≤ 63) : zC E d 31 [(2, 52), (0, a0), (1, a1), (1, a2)] m0 (fun v m' => v = (9, 0) ∧ zInv m' ∧ zFr W_31 m0 m') := by
  have hF0 : zFr W_31 m0 m0 := zFr.rfl
  generalize hQ : (fun (v : zV) (m' : zM) => v = (9, 0) ∧ zInv m' ∧ zFr W_31 m0 m') = Q
  show zW E d 31 0 [(2, 52), (0, a0), (1, a1), (9, 0), (1, a2), (9, 0), (9, 0), (9, 0)] [] m0 Q
  refine zw_7 zr_31_0 rfl ?_
  obtain ⟨f1, ef1⟩ : ∃ v, m0 52 0 = v := ⟨_, rfl⟩
  have bf1 := ib_52_0 hI0
  rw [ef1] at bf1
  refine zw_46i zr_31_1 ef1 rfl rfl rfl ?_
  refine zw_push zr_31_4 ?_
  refine zw_41_4 zr_31_5 ?_ ?_
  · intro h2
    refine zw_5 zr_31_12 rfl ?_
    refine zw_7 zr_31_13 rfl ?_
    obtain ⟨f3, ef3⟩ : ∃ v, m0 52 2 = v := ⟨_, rfl⟩
    have bf3 := hI0.fl (c := 52) (k := 2) rfl
    rw [ef3] at bf3
    refine zw_46l zr_31_14 ef3 rfl rfl rfl ?_
    refine zw_29h zr_31_17 ?_
    intro x4 hx4a hx4b
    refine zw_7 zr_31_18 rfl ?_
    obtain ⟨f5, ef5⟩ : ∃ v, m0 52 1 = v := ⟨_, rfl⟩
    have bf5 := hI0.fl (c := 52) (k := 1) rfl
    rw [ef5] at bf5
    refine zw_46l zr_31_19 ef5 rfl rfl rfl ?_
    refine zw_6 zr_31_22 rfl ?_
    refine zw_29h zr_31_24 ?_
    intro x6 hx6a hx6b
    refine zw_28h zr_31_25 ?_
    intro x7 hx7a hx7b
    refine zw_14 (L' := [(2, 52), (0, a0), (1, a1), (9, 0), (1, a2), (9, 0), (1, x7), (9, 0)]) zr_31_26 (Nat.le_of_ble_eq_true rfl) rfl ?_
    refine zw_6 zr_31_28 rfl ?_
    refine zw_push zr_31_30 ?_
    refine zw_39_2 zr_31_31 zr_31_32 ?_ ?_
    · intro h8
      refine zw_7 zr_31_50 rfl ?_
      refine zw_3 zr_31_51 rfl ?_
      refine zw_47 (c := 52) zr_31_52 rfl ⟨rfl, by decide, rfl⟩ ?_
      intro m9 em9
      have hIm9 : zInv m9 := by rw [em9]; exact hI0.bd (r := 52) (k := 0) (lo := (-1)) (hi := 9) rfl (by omega) (by decide) (by decide) (by decide)
      have hFm9 : zFr W_31 m0 m9 := by rw [em9]; exact hF0.up rfl
      have km9_52_2 : m9 52 2 = f3 := by rw [em9, zUp_ne (by omega)]; exact ef3
      have km9_52_1 : m9 52 1 = f5 := by rw [em9, zUp_ne (by omega)]; exact ef5
      have km9_52_0 : m9 52 0 = a0 := by rw [em9]; exact zUp_eq _ _ _ _
      clear em9
      refine zw_7 zr_31_55 rfl ?_
      refine zw_5 zr_31_56 rfl ?_
      refine zw_47 (c := 52) zr_31_57 rfl ⟨rfl, by decide, rfl⟩ ?_
      intro m10 em10
      have hIm10 : zInv m10 := by rw [em10]; exact hIm9.anyl (by omega) (by decide) rfl (by decide) (by decide)
      have hFm10 : zFr W_31 m0 m10 := by rw [em10]; exact hFm9.up rfl
      have km10_52_2 : m10 52 2 = f3 := by rw [em10, zUp_ne (by omega)]; exact km9_52_2
      have km10_52_0 : m10 52 0 = a0 := by rw [em10, zUp_ne (by omega)]; exact km9_52_0
      have km10_52_1 : m10 52 1 = a1 := by rw [em10]; exact zUp_eq _ _ _ _
      clear em10
      refine zw_7 zr_31_60 rfl ?_
      refine zw_6 zr_31_61 rfl ?_
      refine zw_47 (c := 52) zr_31_63 rfl ⟨rfl, by decide, rfl⟩ ?_
      intro m11 em11
      have hIm11 : zInv m11 := by rw [em11]; exact hIm10.anyl (by omega) (by decide) rfl (by decide) (by decide)
      have hFm11 : zFr W_31 m0 m11 := by rw [em11]; exact hFm10.up rfl
      have km11_52_0 : m11 52 0 = a0 := by rw [em11, zUp_ne (by omega)]; exact km10_52_0
      have km11_52_1 : m11 52 1 = a1 := by rw [em11, zUp_ne (by omega)]; exact km10_52_1
      have km11_52_2 : m11 52 2 = a2 := by rw [em11]; exact zUp_eq _ _ _ _
      clear em11
      refine zw_R zr_31_66 (by decide) zm_31 (v := (9, 0)) rfl ?_
      rw [← hQ]; exact ⟨rfl, hIm11, hFm11⟩
    · intro h12
      refine zw_6 zr_31_35 rfl ?_
      refine zw_push zr_31_37 ?_
      refine zw_39_4 zr_31_38 zr_31_39 ?_ ?_
      · intro h13
        refine zw_R zr_31_66 (by decide) zm_31 (v := (9, 0)) rfl ?_
        rw [← hQ]; exact ⟨rfl, hI0, hF0⟩
      · intro h14
        refine zw_3 zr_31_42 rfl ?_
        refine zw_7 zr_31_43 rfl ?_
        refine zw_46i zr_31_44 ef1 rfl rfl rfl ?_
        refine zw_41_3 zr_31_47 ?_ ?_
        · intro h15
          refine zw_R zr_31_66 (by decide) zm_31 (v := (9, 0)) rfl ?_
          rw [← hQ]; exact ⟨rfl, hI0, hF0⟩
        · intro h16
          refine zw_7 zr_31_50 rfl ?_
          refine zw_3 zr_31_51 rfl ?_
          refine zw_47 (c := 52) zr_31_52 rfl ⟨rfl, by decide, rfl⟩ ?_
          intro m17 em17
          have hIm17 : zInv m17 := by rw [em17]; exact hI0.bd (r := 52) (k := 0) (lo := (-1)) (hi := 9) rfl (by omega) (by decide) (by decide) (by decide)
          have hFm17 : zFr W_31 m0 m17 := by rw [em17]; exact hF0.up rfl
          have km17_52_2 : m17 52 2 = f3 := by rw [em17, zUp_ne (by omega)]; exact ef3
          have km17_52_1 : m17 52 1 = f5 := by rw [em17, zUp_ne (by omega)]; exact ef5
          have km17_52_0 : m17 52 0 = a0 := by rw [em17]; exact zUp_eq _ _ _ _
          clear em17
          refine zw_7 zr_31_55 rfl ?_
          refine zw_5 zr_31_56 rfl ?_
          refine zw_47 (c := 52) zr_31_57 rfl ⟨rfl, by decide, rfl⟩ ?_
          intro m18 em18
          have hIm18 : zInv m18 := by rw [em18]; exact hIm17.anyl (by omega) (by decide) rfl (by decide) (by decide)
          have hFm18 : zFr W_31 m0 m18 := by rw [em18]; exact hFm17.up rfl
          have km18_52_2 : m18 52 2 = f3 := by rw [em18, zUp_ne (by omega)]; exact km17_52_2
          have km18_52_0 : m18 52 0 = a0 := by rw [em18, zUp_ne (by omega)]; exact km17_52_0
          have km18_52_1 : m18 52 1 = a1 := by rw [em18]; exact zUp_eq _ _ _ _
          clear em18
          refine zw_7 zr_31_60 rfl ?_
          refine zw_6 zr_31_61 rfl ?_
          refine zw_47 (c := 52) zr_31_63 rfl ⟨rfl, by decide, rfl⟩ ?_
          intro m19 em19
          have hIm19 : zInv m19 := by rw [em19]; exact hIm18.anyl (by omega) (by decide) rfl (by decide) (by decide)
          have hFm19 : zFr W_31 m0 m19 := by rw [em19]; exact hFm18.up rfl
          have km19_52_0 : m19 52 0 = a0 := by rw [em19, zUp_ne (by omega)]; exact km18_52_0
          have km19_52_1 : m19 52 1 = a1 := by rw [em19, zUp_ne (by omega)]; exact km18_52_1
          have km19_52_2 : m19 52 2 = a2 := by rw [em19]; exact zUp_eq _ _ _ _
          clear em19
          refine zw_R zr_31_66 (by decide) zm_31 (v := (9, 0)) rfl ?_
          rw [← hQ]; exact ⟨rfl, hIm19, hFm19⟩
  · intro h20
    refine zw_push zr_31_8 ?_
    refine zw_42 zr_31_9 ?_
    refine zw_14 (L' := [(2, 52), (0, a0), (1, a1), (9, 0), (1, a2), (9, 0), (1, 1), (9, 0)]) zr_31_26 (Nat.le_of_ble_eq_true rfl) rfl ?_
    refine zw_6 zr_31_28 rfl ?_
    refine zw_push zr_31_30 ?_
    refine zw_39_2 zr_31_31 zr_31_32 ?_ ?_
    · intro h21
      refine zw_7 zr_31_50 rfl ?_
      refine zw_3 zr_31_51 rfl ?_
      refine zw_47 (c := 52) zr_31_52 rfl ⟨rfl, by decide, rfl⟩ ?_
      intro m22 em22
      have hIm22 : zInv m22 := by rw [em22]; exact hI0.bd (r := 52) (k := 0) (lo := (-1)) (hi := 9) rfl (by omega) (by decide) (by decide) (by decide)
      have hFm22 : zFr W_31 m0 m22 := by rw [em22]; exact hF0.up rfl
      have km22_52_0 : m22 52 0 = a0 := by rw [em22]; exact zUp_eq _ _ _ _
      clear em22
      refine zw_7 zr_31_55 rfl ?_
      refine zw_5 zr_31_56 rfl ?_
      refine zw_47 (c := 52) zr_31_57 rfl ⟨rfl, by decide, rfl⟩ ?_
      intro m23 em23
      have hIm23 : zInv m23 := by rw [em23]; exact hIm22.anyl (by omega) (by decide) rfl (by decide) (by decide)
      have hFm23 : zFr W_31 m0 m23 := by rw [em23]; exact hFm22.up rfl
      have km23_52_0 : m23 52 0 = a0 := by rw [em23, zUp_ne (by omega)]; exact km22_52_0
      have km23_52_1 : m23 52 1 = a1 := by rw [em23]; exact zUp_eq _ _ _ _
      clear em23
      refine zw_7 zr_31_60 rfl ?_
      refine zw_6 zr_31_61 rfl ?_
      refine zw_47 (c := 52) zr_31_63 rfl ⟨rfl, by decide, rfl⟩ ?_
      intro m24 em24
      have hIm24 : zInv m24 := by rw [em24]; exact hIm23.anyl (by omega) (by decide) rfl (by decide) (by decide)
      have hFm24 : zFr W_31 m0 m24 := by rw [em24]; exact hFm23.up rfl
      have km24_52_0 : m24 52 0 = a0 := by rw [em24, zUp_ne (by omega)]; exact km23_52_0
      have km24_52_1 : m24 52 1 = a1 := by rw [em24, zUp_ne (by omega)]; exact km23_52_1
      have km24_52_2 : m24 52 2 = a2 := by rw [em24]; exact zUp_eq _ _ _ _
      clear em24
      refine zw_R zr_31_66 (by decide) zm_31 (v := (9, 0)) rfl ?_
      rw [← hQ]; exact ⟨rfl, hIm24, hFm24⟩
    · intro h25; omega

abbrev W_32 : List (Nat × Nat) := [(52, 0), (52, 1), (52, 2), (53, 1000), (54, 1000)]
set_option maxHeartbeats 8000000 in
theorem th_32 {E : zE} {d : Nat} {m0 : zM} {a0 : Int} {a1 : Int} {gY : Int} {F54 : Nat → Int} (hd : 2 ≤ d) (hI0 : zInv m0) (hG54 : m0 54 = F54) (ha0 : 0 ≤ a0 ∧ a0 ≤ 9) (ha1 : (-2147483648) ≤ a1 ∧ a1 ≤ 2147483647) (hp0 : zY F54 a0 gY) (hp1 : 0 ≤ gY ∧ gY ≤ 59) : zC E d 32 [(2, 52), (0, a0), (0, a1)] m0 (fun v m' => v = (9, 0) ∧ zInv m' ∧ zFr W_32 m0 m' ∧ (zY (m' 54) (a0 + 1) gY)) := by
  have hF0 : zFr W_32 m0 m0 := zFr.rfl
  generalize hQ : (fun (v : zV) (m' : zM) => v = (9, 0) ∧ zInv m' ∧ zFr W_32 m0 m' ∧ (zY (m' 54) (a0 + 1) gY)) = Q
  show zW E d 32 0 [(2, 52), (0, a0), (0, a1), (9, 0), (9, 0)] [] m0 Q
  refine zw_7 zr_32_0 rfl ?_
  refine zw_46r (s := 53) zr_32_1 rfl rfl rfl rfl ?_
  refine zw_3 zr_32_4 rfl ?_
  refine zw_push zr_32_5 ?_
  refine zw_18 zr_32_7 (by omega) ?_
  refine zw_7 zr_32_8 rfl ?_
  refine zw_46r (s := 54) zr_32_9 rfl rfl rfl rfl ?_
  refine zw_3 zr_32_12 rfl ?_
  refine zw_48 (c := 54) (len := 10) zr_32_13 rfl rfl (by omega) (by omega) ?_
  intro x1 ex1
  have bx1 := ib_54 hI0 (k := (a0).toNat) (by omega)
  rw [← ex1] at bx1
  have qx1 : x1 = F54 (a0).toNat := by rw [← hG54]; exact ex1
  clear ex1
  have z2 : x1 ≤ gY := by rw [qx1]; exact zY_at hp0 (by omega) (by omega)
  refine zw_push zr_32_14 ?_
  refine zw_20 zr_32_16 (by omega) (by omega) (by omega) (by omega) ?_
  refine zw_16 zr_32_17 (by omega) ?_
  refine zw_7 zr_32_18 rfl ?_
  refine zw_46r (s := 43) zr_32_19 rfl rfl rfl rfl ?_
  refine zw_46r (s := 44) zr_32_22 rfl rfl rfl rfl ?_
  refine zw_3 zr_32_25 rfl ?_
  refine zw_48 (c := 44) (len := 10) zr_32_26 rfl rfl (by omega) (by omega) ?_
  intro x3 ex3
  have bx3 := hI0.ra (c := 44) (len := 10) (k := (a0).toNat) rfl (by omega)
  rw [← ex3] at bx3
  clear ex3
  refine zw_49 (c := 53) (len := 90) zr_32_27 rfl rfl (by omega) (by omega) ?_
  intro m4 em4
  have hIm4 : zInv m4 := by rw [em4]; exact hI0.any (by omega) rfl (by decide) (by decide)
  have hFm4 : zFr W_32 m0 m4 := by rw [em4]; exact hF0.any rfl
  have fm4_54 : m4 54 = F54 := by rw [em4, zUp_fn (by decide)]; exact hG54
  clear em4
  refine zw_7 zr_32_28 rfl ?_
  refine zw_46r (s := 54) zr_32_29 rfl rfl rfl rfl ?_
  refine zw_3 zr_32_32 rfl ?_
  refine zw_45 zr_32_33 ⟨rfl, rfl⟩ ?_
  refine zw_48 (c := 54) (len := 10) zr_32_34 rfl rfl (by omega) (by omega) ?_
  intro x5 ex5
  have bx5 := ib_54 hIm4 (k := (a0).toNat) (by omega)
  rw [← ex5] at bx5
  have qx5 : x5 = F54 (a0).toNat := by rw [← fm4_54]; exact ex5
  clear ex5
  have z6 : x5 ≤ gY := by rw [qx5]; exact zY_at hp0 (by omega) (by omega)
  refine zw_push zr_32_35 ?_
  refine zw_16 zr_32_36 (by omega) ?_
  refine zw_49 (c := 54) (len := 10) zr_32_37 rfl rfl (by omega) (by omega) ?_
  intro m7 em7
  have hIm7 : zInv m7 := by rw [em7]; exact iu_54 hIm4 (by omega)
  have hFm7 : zFr W_32 m0 m7 := by rw [em7]; exact hFm4.any rfl
  have fm7_54 : m7 54 = zPt F54 ((a0).toNat) ((x5 + 1)) := by rw [em7]; exact (zUp_ff (m := m4)).trans (congrArg (fun q => zPt q ((a0).toNat) ((x5 + 1))) fm4_54)
  clear em7
  refine zw_7 zr_32_38 rfl ?_
  refine zw_46r (s := 54) zr_32_39 rfl rfl rfl rfl ?_
  refine zw_3 zr_32_42 rfl ?_
  refine zw_48 (c := 54) (len := 10) zr_32_43 rfl rfl (by omega) (by omega) ?_
  intro x8 ex8
  have bx8 := ib_54 hIm7 (k := (a0).toNat) (by omega)
  rw [← ex8] at bx8
  have qx8 : x8 = (zPt F54 ((a0).toNat) ((x5 + 1))) (a0).toNat := by rw [← fm7_54]; exact ex8
  refine zw_3 zr_32_44 rfl ?_
  refine zw_41_3 zr_32_45 ?_ ?_
  · intro h9
    refine zw_7 zr_32_49 rfl ?_
    refine zw_46r (s := 43) zr_32_50 rfl rfl rfl rfl ?_
    refine zw_46r (s := 44) zr_32_53 rfl rfl rfl rfl ?_
    refine zw_3 zr_32_56 rfl ?_
    refine zw_48 (c := 44) (len := 10) zr_32_57 rfl rfl (by omega) (by omega) ?_
    intro x10 ex10
    have bx10 := hIm7.ra (c := 44) (len := 10) (k := (a0).toNat) rfl (by omega)
    rw [← ex10] at bx10
    clear ex10
    refine zw_9 (L' := [(2, 52), (0, a0), (0, a1), (0, x10), (9, 0)]) zr_32_58 (Nat.le_of_ble_eq_true rfl) rfl ?_
    refine zw_push zr_32_59 ?_
    refine zw_10 (L' := [(2, 52), (0, a0), (0, a1), (0, x10), (0, 2)]) zr_32_60 (Nat.le_of_ble_eq_true rfl) rfl ?_
    have lp62_14 : ∀ (nlp62_14 : Nat) (i11 i12 : Int) (m13 : zM), zInv m13 → zFr W_32 m0 m13 → m13 54 = zPt F54 ((a0).toNat) ((x5 + 1)) → (-2147483648) ≤ i11 → i11 ≤ 2147483647 → 2 ≤ i12 → i12 ≤ 61 → (61 - i12).toNat < nlp62_14 → zW E (d) 32 62 [(2, 52), (0, a0), (0, a1), (0, i11), (0, i12)] [] m13 Q := by
      intro nlp62_14
      induction nlp62_14 with
      | zero =>
        intros
        exact absurd (by assumption : _ < 0) (Nat.not_lt_zero _)
      | succ nlp62_14 ihlp62_14 =>
        intro i11 i12 m13 hIm13 hFm13 fm13_54 li11 ui11 li12 ui12 hmlp62_14
        refine zw_4 zr_32_62 rfl ?_
        refine zw_3 zr_32_64 rfl ?_
        refine zw_41_2 zr_32_65 ?_ ?_
        · intro h16
          refine zw_7 zr_32_101 rfl ?_
          refine zw_3 zr_32_102 rfl ?_
          refine zw_3 zr_32_103 rfl ?_
          refine zw_36 zr_32_104 ?_
          refine zw_push zr_32_105 ?_
          refine zw_C zr_32_106 (Or.inl rfl) zm_31 rfl rfl ⟨Nat.le_of_ble_eq_true rfl, Nat.le_of_ble_eq_true rfl, Nat.le_of_ble_eq_true rfl, rfl, by decide⟩ (by omega) (th_31 (d := d - 1) (by omega) hIm13 (a0 := a0) (a1 := i11) (a2 := 1)      (by omega) (by omega) (by omega) ) ?_
          rintro _ m17 ⟨rfl, hIm17, gm17⟩
          have hFm17 : zFr W_32 m0 m17 := hFm13.trans gm17 rfl
          have fm17_54 : m17 54 = zPt F54 ((a0).toNat) ((x5 + 1)) := (funext fun k => gm17 54 k rfl).trans fm13_54
          show zW E (d) 32 109 [(2, 52), (0, a0), (0, a1), (0, i11), (0, i12)] [] m17 Q
          refine zw_R zr_32_109 (by decide) zm_32 (v := (9, 0)) rfl ?_
          rw [← hQ]; exact ⟨rfl, hIm17, hFm17, by rw [fm17_54]; exact zY_put hp0 (by omega) (by omega)⟩
        · intro h19
          refine zw_3 zr_32_68 rfl ?_
          refine zw_7 zr_32_69 rfl ?_
          refine zw_46r (s := 53) zr_32_70 rfl rfl rfl rfl ?_
          refine zw_3 zr_32_73 rfl ?_
          refine zw_push zr_32_74 ?_
          refine zw_18 zr_32_76 (by omega) ?_
          refine zw_7 zr_32_77 rfl ?_
          refine zw_46r (s := 54) zr_32_78 rfl rfl rfl rfl ?_
          refine zw_3 zr_32_81 rfl ?_
          refine zw_48 (c := 54) (len := 10) zr_32_82 rfl rfl (by omega) (by omega) ?_
          intro x20 ex20
          have bx20 := ib_54 hIm13 (k := (a0).toNat) (by omega)
          rw [← ex20] at bx20
          have qx20 : x20 = (zPt F54 ((a0).toNat) ((x5 + 1))) (a0).toNat := by rw [← fm13_54]; exact ex20
          clear ex20
          refine zw_4 zr_32_83 rfl ?_
          refine zw_17 zr_32_85 (by omega) ?_
          refine zw_push zr_32_86 ?_
          refine zw_20 zr_32_88 (by omega) (by omega) (by omega) (by omega) ?_
          refine zw_16 zr_32_89 (by omega) ?_
          refine zw_48 (c := 53) (len := 90) zr_32_90 rfl rfl (by omega) (by omega) ?_
          intro x21 ex21
          have bx21 := hIm13.ra (c := 53) (len := 90) (k := (((a0 * 9) + ((x20 - i12) % 9))).toNat) rfl (by omega)
          rw [← ex21] at bx21
          clear ex21
          refine zw_121 zr_32_91 (Nat.le_of_ble_eq_true rfl) (by omega) (by omega) (by omega) ?_
          intro x22 hx22a hx22b hx22c
          refine zw_9 (L' := [(2, 52), (0, a0), (0, a1), (0, x22), (0, i12)]) zr_32_94 (Nat.le_of_ble_eq_true rfl) rfl ?_
          refine zw_15 (c := 1) (L' := [(2, 52), (0, a0), (0, a1), (0, x22), (0, (i12 + 1))]) zr_32_95 rfl (by decide) (by omega) rfl ?_
          refine zw_42 zr_32_98 ?_
          exact zw_less (L := [(2, 52), (0, a0), (0, a1), (0, x22), (0, (i12 + 1))]) ⟨Or.inr rfl, Or.inr rfl, Or.inr rfl, Or.inr rfl, Or.inr rfl, trivial⟩ (ihlp62_14 (x22) ((i12 + 1)) m13 hIm13 hFm13   fm13_54 (by omega) (by omega) (by omega) (by omega)  (by omega))
    exact lp62_14 _ (x10) (2) m7 hIm7 hFm7  fm7_54 (by omega) (by omega) (by omega) (by omega)  (Nat.lt_succ_self _)
  · intro h23
    refine zw_R zr_32_48 (by decide) zm_32 (v := (9, 0)) rfl ?_
    rw [← hQ]; exact ⟨rfl, hIm7, hFm7, by rw [fm7_54]; exact zY_put hp0 (by omega) (by omega)⟩

abbrev W_33 : List (Nat × Nat) := [(52, 0), (52, 1), (52, 2), (53, 1000), (54, 1000)]
set_option maxHeartbeats 8000000 in
theorem th_33 {E : zE} {d : Nat} {m0 : zM} {a0 : Int} {a1 : Int} {a2 : Int} {gY : Int} {F54 : Nat → Int} (hd : 3 ≤ d) (hI0 : zInv m0) (hG54 : m0 54 = F54) (ha0 : (-2147483648) ≤ a0 ∧ a0 ≤ 2147483647) (ha1 : 0 ≤ a1 ∧ a1 ≤ 2) (ha2 : (-2147483648) ≤ a2 ∧ a2 ≤ 2147483647) (hp0 : zY F54 0 gY) (hp1 : 0 ≤ gY ∧ gY ≤ 59) : zC E d 33 [(2, 52), (0, a0), (0, a1), (0, a2)] m0 (fun v m' => v = (9, 0) ∧ zInv m' ∧ zFr W_33 m0 m' ∧ (zY (m' 54) 10 gY)) := by
  have hF0 : zFr W_33 m0 m0 := zFr.rfl
  generalize hQ : (fun (v : zV) (m' : zM) => v = (9, 0) ∧ zInv m' ∧ zFr W_33 m0 m' ∧ (zY (m' 54) 10 gY)) = Q
  show zW E d 33 0 [(2, 52), (0, a0), (0, a1), (0, a2), (9, 0), (9, 0), (9, 0)] [] m0 Q
  refine zw_3 zr_33_0 rfl ?_
  refine zw_C zr_33_1 (Or.inr rfl) zm_29 rfl rfl ⟨Nat.le_of_ble_eq_true rfl, Nat.le_of_ble_eq_true rfl, Nat.le_of_ble_eq_true rfl, rfl, by decide⟩ (by omega) (th_29 (d := d - 1) (by omega) hI0 (a0 := a0)      (by omega) ) ?_
  rintro _ _ ⟨r1, rfl, hr1a, hr1b, rfl⟩
  show zW E (d) 33 4 [(2, 52), (0, a0), (0, a1), (0, a2), (9, 0), (9, 0), (9, 0)] [(0, r1)] m0 Q
  refine zw_10 (L' := [(2, 52), (0, a0), (0, a1), (0, a2), (0, r1), (9, 0), (9, 0)]) zr_33_4 (Nat.le_of_ble_eq_true rfl) rfl ?_
  refine zw_7 zr_33_6 rfl ?_
  refine zw_46r (s := 43) zr_33_7 rfl rfl rfl rfl ?_
  refine zw_3 zr_33_10 rfl ?_
  refine zw_C zr_33_11 (Or.inl rfl) zm_30 rfl rfl ⟨Nat.le_of_ble_eq_true rfl, Nat.le_of_ble_eq_true rfl, Nat.le_of_ble_eq_true rfl, rfl, by decide⟩ (by omega) (th_30 (d := d - 1) (by omega) hI0 (a0 := a0)      (by omega) ) ?_
  rintro _ _ ⟨r2, rfl, hr2a, hr2b, rfl⟩
  show zW E (d) 33 14 [(2, 52), (0, a0), (0, a1), (0, a2), (0, r1), (9, 0), (9, 0)] [(0, r2)] m0 Q
  refine zw_10 (L' := [(2, 52), (0, a0), (0, a1), (0, a2), (0, r1), (0, r2), (9, 0)]) zr_33_14 (Nat.le_of_ble_eq_true rfl) rfl ?_
  refine zw_push zr_33_16 ?_
  refine zw_10 (L' := [(2, 52), (0, a0), (0, a1), (0, a2), (0, r1), (0, r2), (0, 0)]) zr_33_17 (Nat.le_of_ble_eq_true rfl) rfl ?_
  have lp19_6 : ∀ (nlp19_6 : Nat) (i3 : Int) (f5 : Nat → Int) (m4 : zM), zInv m4 → zFr W_33 m0 m4 → m4 54 = f5 → 0 ≤ i3 → i3 ≤ 10 → (zY f5 i3 gY) → (10 - i3).toNat < nlp19_6 → zW E (d) 33 19 [(2, 52), (0, a0), (0, a1), (0, a2), (0, r1), (0, r2), (0, i3)] [] m4 Q := by
    intro nlp19_6
    induction nlp19_6 with
    | zero =>
      intros
      exact absurd (by assumption : _ < 0) (Nat.not_lt_zero _)
    | succ nlp19_6 ihlp19_6 =>
      intro i3 f5 m4 hIm4 hFm4 fm4_54 li3 ui3 hv0lp19_6 hmlp19_6
      refine zw_4 zr_33_19 rfl ?_
      refine zw_7 zr_33_21 rfl ?_
      refine zw_46r (s := 1) zr_33_22 rfl rfl rfl rfl ?_
      obtain ⟨f8, ef8⟩ : ∃ v, m4 1 0 = v := ⟨_, rfl⟩
      have bf8 := ib_1_0 hIm4
      rw [ef8] at bf8
      refine zw_46i zr_33_25 ef8 rfl rfl rfl ?_
      refine zw_41_3 zr_33_28 ?_ ?_
      · intro h9
        refine zw_R zr_33_115 (by decide) zm_33 (v := (9, 0)) rfl ?_
        rw [← hQ]; exact ⟨rfl, hIm4, hFm4, by rw [fm4_54]; exact zY_mono hv0lp19_6 (by omega)⟩
      · intro h11
        refine zw_3 zr_33_31 rfl ?_
        refine zw_4 zr_33_32 rfl ?_
        refine zw_25h zr_33_34 ?_
        intro x12 hx12a hx12b
        refine zw_push zr_33_35 ?_
        refine zw_21m zr_33_36 (by omega) (by omega) ?_
        intro x13 hx13a hx13b
        refine zw_40_4 zr_33_37 ?_ ?_
        · intro h14
          refine zw_3 zr_33_43 rfl ?_
          refine zw_40_4 zr_33_44 ?_ ?_
          · intro h15
            refine zw_3 zr_33_68 rfl ?_
            refine zw_push zr_33_69 ?_
            refine zw_41_4 zr_33_70 ?_ ?_
            · intro h16
              refine zw_7 zr_33_83 rfl ?_
              refine zw_4 zr_33_84 rfl ?_
              refine zw_7 zr_33_86 rfl ?_
              refine zw_46r (s := 43) zr_33_87 rfl rfl rfl rfl ?_
              refine zw_46r (s := 44) zr_33_90 rfl rfl rfl rfl ?_
              refine zw_4 zr_33_93 rfl ?_
              refine zw_48 (c := 44) (len := 10) zr_33_95 rfl rfl (by omega) (by omega) ?_
              intro x17 ex17
              have bx17 := hIm4.ra (c := 44) (len := 10) (k := (i3).toNat) rfl (by omega)
              rw [← ex17] at bx17
              clear ex17
              refine zw_4 zr_33_96 rfl ?_
              refine zw_18h zr_33_98 ?_
              intro x18 hx18a hx18b
              refine zw_4 zr_33_99 rfl ?_
              refine zw_17h zr_33_101 ?_
              intro x19 hx19a hx19b
              refine zw_36 zr_33_102 ?_
              refine zw_4 zr_33_103 rfl ?_
              refine zw_36 zr_33_105 ?_
              refine zw_C zr_33_106 (Or.inl rfl) zm_31 rfl rfl ⟨Nat.le_of_ble_eq_true rfl, Nat.le_of_ble_eq_true rfl, Nat.le_of_ble_eq_true rfl, rfl, by decide⟩ (by omega) (th_31 (d := d - 1) (by omega) hIm4 (a0 := i3) (a1 := x19) (a2 := r1)      (by omega) (by omega) (by omega) ) ?_
              rintro _ m20 ⟨rfl, hIm20, gm20⟩
              have hFm20 : zFr W_33 m0 m20 := hFm4.trans gm20 rfl
              have km20_1_0 : m20 1 0 = f8 := (gm20 1 0 rfl).trans ef8
              have fm20_54 : m20 54 = f5 := (funext fun k => gm20 54 k rfl).trans fm4_54
              show zW E (d) 33 109 [(2, 52), (0, a0), (0, a1), (0, a2), (0, r1), (0, r2), (0, i3)] [] m20 Q
              refine zw_15 (c := 1) (L' := [(2, 52), (0, a0), (0, a1), (0, a2), (0, r1), (0, r2), (0, (i3 + 1))]) zr_33_109 rfl (by decide) (by omega) rfl ?_
              refine zw_42 zr_33_112 ?_
              exact zw_less (L := [(2, 52), (0, a0), (0, a1), (0, a2), (0, r1), (0, r2), (0, (i3 + 1))]) ⟨Or.inr rfl, Or.inr rfl, Or.inr rfl, Or.inr rfl, Or.inr rfl, Or.inr rfl, Or.inr rfl, trivial⟩ (ihlp19_6 ((i3 + 1)) (f5) m20 hIm20 hFm20   fm20_54 (by omega) (by omega) (by first | assumption | exact zY_mono hv0lp19_6 (by omega)) (by omega))
            · intro h22
              refine zw_7 zr_33_73 rfl ?_
              refine zw_4 zr_33_74 rfl ?_
              refine zw_3 zr_33_76 rfl ?_
              refine zw_C zr_33_77 (Or.inl rfl) zm_32 rfl rfl ⟨Nat.le_of_ble_eq_true rfl, Nat.le_of_ble_eq_true rfl, Nat.le_of_ble_eq_true rfl, rfl, by decide⟩ (by omega) (th_32 (d := d - 1) (by omega) hIm4 (a0 := i3) (a1 := a2)  (gY := gY) (F54 := f5)  fm4_54 (by omega) (by omega) (hv0lp19_6) (by omega)) ?_
              rintro _ m25 ⟨rfl, hIm25, gm25, po0_m25⟩
              have hFm25 : zFr W_33 m0 m25 := hFm4.trans gm25 rfl
              have km25_1_0 : m25 1 0 = f8 := (gm25 1 0 rfl).trans ef8
              obtain ⟨f26, fm25_54⟩ : ∃ f, m25 54 = f := ⟨_, rfl⟩
              try rw [fm25_54] at po0_m25
              show zW E (d) 33 80 [(2, 52), (0, a0), (0, a1), (0, a2), (0, r1), (0, r2), (0, i3)] [] m25 Q
              refine zw_42 zr_33_80 ?_
              refine zw_15 (c := 1) (L' := [(2, 52), (0, a0), (0, a1), (0, a2), (0, r1), (0, r2), (0, (i3 + 1))]) zr_33_109 rfl (by decide) (by omega) rfl ?_
              refine zw_42 zr_33_112 ?_
              exact zw_less (L := [(2, 52), (0, a0), (0, a1), (0, a2), (0, r1), (0, r2), (0, (i3 + 1))]) ⟨Or.inr rfl, Or.inr rfl, Or.inr rfl, Or.inr rfl, Or.inr rfl, Or.inr rfl, Or.inr rfl, trivial⟩ (ihlp19_6 ((i3 + 1)) (f26) m25 hIm25 hFm25   fm25_54 (by omega) (by omega) (by first | assumption | exact zY_mono hv0lp19_6 (by omega)) (by omega))
          · intro h28
            refine zw_7 zr_33_47 rfl ?_
            refine zw_4 zr_33_48 rfl ?_
            refine zw_7 zr_33_50 rfl ?_
            refine zw_46r (s := 43) zr_33_51 rfl rfl rfl rfl ?_
            refine zw_46r (s := 44) zr_33_54 rfl rfl rfl rfl ?_
            refine zw_4 zr_33_57 rfl ?_
            refine zw_48 (c := 44) (len := 10) zr_33_59 rfl rfl (by omega) (by omega) ?_
            intro x29 ex29
            have bx29 := hIm4.ra (c := 44) (len := 10) (k := (i3).toNat) rfl (by omega)
            rw [← ex29] at bx29
            clear ex29
            refine zw_36 zr_33_60 ?_
            refine zw_push zr_33_61 ?_
            refine zw_C zr_33_62 (Or.inl rfl) zm_31 rfl rfl ⟨Nat.le_of_ble_eq_true rfl, Nat.le_of_ble_eq_true rfl, Nat.le_of_ble_eq_true rfl, rfl, by decide⟩ (by omega) (th_31 (d := d - 1) (by omega) hIm4 (a0 := i3) (a1 := x29) (a2 := 1)      (by omega) (by omega) (by omega) ) ?_
            rintro _ m30 ⟨rfl, hIm30, gm30⟩
            have hFm30 : zFr W_33 m0 m30 := hFm4.trans gm30 rfl
            have km30_1_0 : m30 1 0 = f8 := (gm30 1 0 rfl).trans ef8
            have fm30_54 : m30 54 = f5 := (funext fun k => gm30 54 k rfl).trans fm4_54
            show zW E (d) 33 65 [(2, 52), (0, a0), (0, a1), (0, a2), (0, r1), (0, r2), (0, i3)] [] m30 Q
            refine zw_42 zr_33_65 ?_
            refine zw_15 (c := 1) (L' := [(2, 52), (0, a0), (0, a1), (0, a2), (0, r1), (0, r2), (0, (i3 + 1))]) zr_33_109 rfl (by decide) (by omega) rfl ?_
            refine zw_42 zr_33_112 ?_
            exact zw_less (L := [(2, 52), (0, a0), (0, a1), (0, a2), (0, r1), (0, r2), (0, (i3 + 1))]) ⟨Or.inr rfl, Or.inr rfl, Or.inr rfl, Or.inr rfl, Or.inr rfl, Or.inr rfl, Or.inr rfl, trivial⟩ (ihlp19_6 ((i3 + 1)) (f5) m30 hIm30 hFm30   fm30_54 (by omega) (by omega) (by first | assumption | exact zY_mono hv0lp19_6 (by omega)) (by omega))
        · intro h32
          refine zw_42 zr_33_40 ?_
          refine zw_15 (c := 1) (L' := [(2, 52), (0, a0), (0, a1), (0, a2), (0, r1), (0, r2), (0, (i3 + 1))]) zr_33_109 rfl (by decide) (by omega) rfl ?_
          refine zw_42 zr_33_112 ?_
          exact zw_less (L := [(2, 52), (0, a0), (0, a1), (0, a2), (0, r1), (0, r2), (0, (i3 + 1))]) ⟨Or.inr rfl, Or.inr rfl, Or.inr rfl, Or.inr rfl, Or.inr rfl, Or.inr rfl, Or.inr rfl, trivial⟩ (ihlp19_6 ((i3 + 1)) (f5) m4 hIm4 hFm4   fm4_54 (by omega) (by omega) (by first | assumption | exact zY_mono hv0lp19_6 (by omega)) (by omega))
  exact lp19_6 _ (0) (F54) m0 hI0 hF0  hG54 (by omega) (by omega) (hp0) (Nat.lt_succ_self _)

abbrev W_34 : List (Nat × Nat) := [(43, 5), (44, 1000), (45, 1), (45, 5), (45, 6), (45, 7), (45, 8), (45, 9), (46, 1000), (47, 1000), (48, 1000), (49, 1000), (50, 1000), (51, 1000), (52, 0), (52, 1), (52, 2), (53, 1000), (54, 1000)]
set_option maxHeartbeats 8000000 in
theorem th_34 {E : zE} {d : Nat} {m0 : zM} {a0 : Int} {a1 : Int} {a2 : Int} {F54 : Nat → Int} (hd : 95 ≤ d) (hI0 : zInv m0) (hG54 : m0 54 = F54) (ha0 : 0 ≤ a0 ∧ a0 ≤ 3) (ha1 : 0 ≤ a1 ∧ a1 ≤ 2) (ha2 : (-2147483648) ≤ a2 ∧ a2 ≤ 2147483647) : zC E d 34 [(2, 52), (0, a0), (0, a1), (0, a2)] m0 (fun v m' => v = (9, 0) ∧ zInv m' ∧ zFr W_34 m0 m') := by
  have hF0 : zFr W_34 m0 m0 := zFr.rfl
  generalize hQ : (fun (v : zV) (m' : zM) => v = (9, 0) ∧ zInv m' ∧ zFr W_34 m0 m') = Q
  show zW E d 34 0 [(2, 52), (0, a0), (0, a1), (0, a2), (9, 0), (9, 0)] [] m0 Q
  refine zw_7 zr_34_0 rfl ?_
  refine zw_push zr_34_1 ?_
  refine zw_47 (c := 52) zr_34_2 rfl ⟨rfl, by decide, rfl⟩ ?_
  intro m1 em1
  have hIm1 : zInv m1 := by rw [em1]; exact hI0.bd (r := 52) (k := 0) (lo := (-1)) (hi := 9) rfl (by omega) (by decide) (by decide) (by decide)
  have hFm1 : zFr W_34 m0 m1 := by rw [em1]; exact hF0.up rfl
  have km1_52_0 : m1 52 0 = (-1) := by rw [em1]; exact zUp_eq _ _ _ _
  have fm1_54 : m1 54 = F54 := by rw [em1, zUp_fn (by decide)]; exact hG54
  clear em1
  refine zw_7 zr_34_5 rfl ?_
  refine zw_46r (s := 54) zr_34_6 rfl rfl rfl rfl ?_
  refine zw_push zr_34_9 ?_
  refine zw_C zr_34_10 (Or.inr rfl) zm_4 rfl rfl ⟨Nat.le_of_ble_eq_true rfl, Nat.le_of_ble_eq_true rfl, Nat.le_of_ble_eq_true rfl, rfl, by decide⟩ (by omega) (th_4_54 (d := d - 1) (by omega) hIm1 (a0 := 0)   (F54 := F54)  fm1_54 (by omega) ) ?_
  rintro _ m2 ⟨rfl, hIm2, gm2, po0_m2⟩
  have hFm2 : zFr W_34 m0 m2 := hFm1.trans gm2 rfl
  have km2_52_0 : m2 52 0 = (-1) := (gm2 52 0 rfl).trans km1_52_0
  obtain ⟨f3, fm2_54⟩ : ∃ f, m2 54 = f := ⟨_, rfl⟩
  try rw [fm2_54] at po0_m2
  show zW E (d) 34 13 [(2, 52), (0, a0), (0, a1), (0, a2), (9, 0), (9, 0)] [] m2 Q
  refine zw_7 zr_34_13 rfl ?_
  refine zw_46r (s := 43) zr_34_14 rfl rfl rfl rfl ?_
  refine zw_3 zr_34_17 rfl ?_
  refine zw_C zr_34_18 (Or.inl rfl) zm_16 rfl rfl ⟨Nat.le_of_ble_eq_true rfl, Nat.le_of_ble_eq_true rfl, Nat.le_of_ble_eq_true rfl, rfl, by decide⟩ (by omega) (th_16 (d := d - 1) (by omega) hIm2 (a0 := a0)      (by omega) ) ?_
  rintro _ m4 ⟨rfl, hIm4, gm4⟩
  have hFm4 : zFr W_34 m0 m4 := hFm2.trans gm4 rfl
  have km4_52_0 : m4 52 0 = (-1) := (gm4 52 0 rfl).trans km2_52_0
  have fm4_54 : m4 54 = f3 := (funext fun k => gm4 54 k rfl).trans fm2_54
  show zW E (d) 34 21 [(2, 52), (0, a0), (0, a1), (0, a2), (9, 0), (9, 0)] [] m4 Q
  refine zw_push zr_34_21 ?_
  refine zw_10 (L' := [(2, 52), (0, a0), (0, a1), (0, a2), (0, 0), (9, 0)]) zr_34_22 (Nat.le_of_ble_eq_true rfl) rfl ?_
  refine zw_push zr_34_24 ?_
  refine zw_10 (L' := [(2, 52), (0, a0), (0, a1), (0, a2), (0, 0), (0, 0)]) zr_34_25 (Nat.le_of_ble_eq_true rfl) rfl ?_
  have lp27_9 : ∀ (nlp27_9 : Nat) (i5 i6 : Int) (f8 : Nat → Int) (m7 : zM), zInv m7 → zFr W_34 m0 m7 → m7 54 = f8 → (-2147483648) ≤ i5 → i5 ≤ 2147483647 → 0 ≤ i6 → i6 ≤ 60 → (zY f8 0 i6) → (60 - i6).toNat < nlp27_9 → zW E (d) 34 27 [(2, 52), (0, a0), (0, a1), (0, a2), (0, i5), (0, i6)] [] m7 Q := by
    intro nlp27_9
    induction nlp27_9 with
    | zero =>
      intros
      exact absurd (by assumption : _ < 0) (Nat.not_lt_zero _)
    | succ nlp27_9 ihlp27_9 =>
      intro i5 i6 f8 m7 hIm7 hFm7 fm7_54 li5 ui5 li6 ui6 hv0lp27_9 hmlp27_9
      refine zw_4 zr_34_27 rfl ?_
      refine zw_7 zr_34_29 rfl ?_
      refine zw_46r (s := 1) zr_34_30 rfl rfl rfl rfl ?_
      obtain ⟨f11, ef11⟩ : ∃ v, m7 1 1 = v := ⟨_, rfl⟩
      have bf11 := ib_1_1 hIm7
      rw [ef11] at bf11
      refine zw_46i zr_34_33 ef11 rfl rfl rfl ?_
      refine zw_41_3 zr_34_36 ?_ ?_
      · intro h12
        refine zw_R zr_34_91 (by decide) zm_34 (v := (9, 0)) rfl ?_
        rw [← hQ]; exact ⟨rfl, hIm7, hFm7⟩
      · intro h13
        refine zw_7 zr_34_39 rfl ?_
        refine zw_46r (s := 43) zr_34_40 rfl rfl rfl rfl ?_
        refine zw_4 zr_34_43 rfl ?_
        refine zw_C zr_34_45 (Or.inl rfl) zm_26 rfl rfl ⟨Nat.le_of_ble_eq_true rfl, Nat.le_of_ble_eq_true rfl, Nat.le_of_ble_eq_true rfl, rfl, by decide⟩ (by omega) (th_26 (d := d - 1) (by omega) hIm7 (a0 := i6)      (by omega) ) ?_
        rintro _ m14 ⟨rfl, hIm14, gm14⟩
        have hFm14 : zFr W_34 m0 m14 := hFm7.trans gm14 rfl
        have km14_1_1 : m14 1 1 = f11 := (gm14 1 1 rfl).trans ef11
        have fm14_54 : m14 54 = f8 := (funext fun k => gm14 54 k rfl).trans fm7_54
        show zW E (d) 34 48 [(2, 52), (0, a0), (0, a1), (0, a2), (0, i5), (0, i6)] [] m14 Q
        refine zw_4 zr_34_48 rfl ?_
        refine zw_7 zr_34_50 rfl ?_
        refine zw_46r (s := 1) zr_34_51 rfl rfl rfl rfl ?_
        refine zw_4 zr_34_54 rfl ?_
        refine zw_C zr_34_56 (Or.inl rfl) zm_27 rfl rfl ⟨Nat.le_of_ble_eq_true rfl, Nat.le_of_ble_eq_true rfl, Nat.le_of_ble_eq_true rfl, rfl, by decide⟩ (by omega) (P := (fun v m' => zW E (d) 34 59 [(2, 52), (0, a0), (0, a1), (0, a2), (0, i5), (0, i6)] (if v.1 = 9 then [(0, i5)] else v :: [(0, i5)]) m' Q)) ?_ (fun _ _ h => h)
        generalize hQ1 : (fun v m' => zW E (d) 34 59 [(2, 52), (0, a0), (0, a1), (0, a2), (0, i5), (0, i6)] (if v.1 = 9 then [(0, i5)] else v :: [(0, i5)]) m' Q) = Q1
        show zW E (d - 1) 27 0 [(2, 1), (0, i6)] [] m14 Q1
        refine zw_push zr_27_0 ?_
        refine zw_7 zr_27_1 rfl ?_
        refine zw_46r (s := 6) zr_27_2 rfl rfl rfl rfl ?_
        refine zw_3 zr_27_5 rfl ?_
        refine zw_48 (c := 6) (len := 60) zr_27_6 rfl rfl (by omega) (by omega) ?_
        intro x15 ex15
        have bx15 := ib_6 hIm14 (k := (i6).toNat) (by omega)
        rw [← ex15] at bx15
        clear ex15
        refine zw_24h zr_27_7 ?_
        intro x16 hx16a hx16b
        refine zw_push zr_27_8 ?_
        refine zw_7 zr_27_9 rfl ?_
        refine zw_46r (s := 7) zr_27_10 rfl rfl rfl rfl ?_
        refine zw_3 zr_27_13 rfl ?_
        refine zw_48 (c := 7) (len := 60) zr_27_14 rfl rfl (by omega) (by omega) ?_
        intro x17 ex17
        have bx17 := ib_7 hIm14 (k := (i6).toNat) (by omega)
        rw [← ex17] at bx17
        clear ex17
        refine zw_24h zr_27_15 ?_
        intro x18 hx18a hx18b
        refine zw_22h zr_27_16 ?_
        intro x19 hx19a hx19b
        refine zw_R zr_27_17 (by decide) zm_27 (v := (0, x19)) rfl ?_
        rw [← hQ1]
        show zW E (d) 34 59 [(2, 52), (0, a0), (0, a1), (0, a2), (0, i5), (0, i6)] [(0, x19), (0, i5)] m14 Q
        refine zw_22h zr_34_59 ?_
        intro x20 hx20a hx20b
        refine zw_10 (L' := [(2, 52), (0, a0), (0, a1), (0, a2), (0, x20), (0, i6)]) zr_34_60 (Nat.le_of_ble_eq_true rfl) rfl ?_
        refine zw_7 zr_34_62 rfl ?_
        refine zw_46r (s := 1) zr_34_63 rfl rfl rfl rfl ?_
        refine zw_4 zr_34_66 rfl ?_
        refine zw_C zr_34_68 (Or.inl rfl) zm_28 rfl rfl ⟨Nat.le_of_ble_eq_true rfl, Nat.le_of_ble_eq_true rfl, Nat.le_of_ble_eq_true rfl, rfl, by decide⟩ (by omega) (P := (fun v m' => zW E (d) 34 71 [(2, 52), (0, a0), (0, a1), (0, a2), (0, x20), (0, i6)] (if v.1 = 9 then [] else v :: []) m' Q)) ?_ (fun _ _ h => h)
        generalize hQ1 : (fun v m' => zW E (d) 34 71 [(2, 52), (0, a0), (0, a1), (0, a2), (0, x20), (0, i6)] (if v.1 = 9 then [] else v :: []) m' Q) = Q1
        show zW E (d - 1) 28 0 [(2, 1), (0, i6)] [] m14 Q1
        refine zw_3 zr_28_0 rfl ?_
        refine zw_push zr_28_1 ?_
        refine zw_16 zr_28_2 (by omega) ?_
        refine zw_7 zr_28_3 rfl ?_
        refine zw_46i zr_28_4 km14_1_1 rfl rfl rfl ?_
        refine zw_41_3 zr_28_7 ?_ ?_
        · intro h21
          refine zw_push zr_28_27 ?_
          refine zw_42 zr_28_28 ?_
          refine zw_R zr_28_32 (by decide) zm_28 (v := (0, 1)) (zRetB (by omega)) ?_
          rw [← hQ1]
          show zW E (d) 34 71 [(2, 52), (0, a0), (0, a1), (0, a2), (0, x20), (0, i6)] [(0, 1)] m14 Q
          refine zw_40_1 zr_34_71 ?_ ?_
          · intro h22; omega
          · intro h23
            refine zw_7 zr_34_74 rfl ?_
            refine zw_4 zr_34_75 rfl ?_
            refine zw_3 zr_34_77 rfl ?_
            refine zw_3 zr_34_78 rfl ?_
            refine zw_C zr_34_79 (Or.inl rfl) zm_33 rfl rfl ⟨Nat.le_of_ble_eq_true rfl, Nat.le_of_ble_eq_true rfl, Nat.le_of_ble_eq_true rfl, rfl, by decide⟩ (by omega) (th_33 (d := d - 1) (by omega) hIm14 (a0 := x20) (a1 := a1) (a2 := a2)  (gY := i6) (F54 := f8)  fm14_54 (by omega) (by omega) (by omega) (hv0lp27_9) (by omega)) ?_
            rintro _ m26 ⟨rfl, hIm26, gm26, po0_m26⟩
            have hFm26 : zFr W_34 m0 m26 := hFm14.trans gm26 rfl
            have km26_1_1 : m26 1 1 = f11 := (gm26 1 1 rfl).trans km14_1_1
            obtain ⟨f27, fm26_54⟩ : ∃ f, m26 54 = f := ⟨_, rfl⟩
            try rw [fm26_54] at po0_m26
            show zW E (d) 34 82 [(2, 52), (0, a0), (0, a1), (0, a2), (0, x20), (0, i6)] [] m26 Q
            refine zw_push zr_34_82 ?_
            refine zw_10 (L' := [(2, 52), (0, a0), (0, a1), (0, a2), (0, 0), (0, i6)]) zr_34_83 (Nat.le_of_ble_eq_true rfl) rfl ?_
            refine zw_15 (c := 1) (L' := [(2, 52), (0, a0), (0, a1), (0, a2), (0, 0), (0, (i6 + 1))]) zr_34_85 rfl (by decide) (by omega) rfl ?_
            refine zw_42 zr_34_88 ?_
            exact zw_less (L := [(2, 52), (0, a0), (0, a1), (0, a2), (0, 0), (0, (i6 + 1))]) ⟨Or.inr rfl, Or.inr rfl, Or.inr rfl, Or.inr rfl, Or.inr rfl, Or.inr rfl, trivial⟩ (ihlp27_9 (0) ((i6 + 1)) (f27) m26 hIm26 hFm26   fm26_54 (by omega) (by omega) (by omega) (by omega) (by first | exact zY_next hv0lp27_9 | exact zY_next (by assumption)) (by omega))
        · intro h29
          refine zw_7 zr_28_10 rfl ?_
          refine zw_46r (s := 5) zr_28_11 rfl rfl rfl rfl ?_
          refine zw_3 zr_28_14 rfl ?_
          refine zw_push zr_28_15 ?_
          refine zw_16 zr_28_16 (by omega) ?_
          refine zw_48 (c := 5) (len := 60) zr_28_17 rfl rfl (by omega) (by omega) ?_
          intro x30 ex30
          have bx30 := ib_5 hIm14 (k := ((i6 + 1)).toNat) (by omega)
          rw [← ex30] at bx30
          clear ex30
          refine zw_7 zr_28_18 rfl ?_
          refine zw_46r (s := 5) zr_28_19 rfl rfl rfl rfl ?_
          refine zw_3 zr_28_22 rfl ?_
          refine zw_48 (c := 5) (len := 60) zr_28_23 rfl rfl (by omega) (by omega) ?_
          intro x31 ex31
          have bx31 := ib_5 hIm14 (k := (i6).toNat) (by omega)
          rw [← ex31] at bx31
          clear ex31
          refine zw_41_1 zr_28_24 ?_ ?_
          · intro h32
            refine zw_push zr_28_31 ?_
            refine zw_R zr_28_32 (by decide) zm_28 (v := (0, 0)) (zRetB (by omega)) ?_
            rw [← hQ1]
            show zW E (d) 34 71 [(2, 52), (0, a0), (0, a1), (0, a2), (0, x20), (0, i6)] [(0, 0)] m14 Q
            refine zw_40_1 zr_34_71 ?_ ?_
            · intro h33
              refine zw_15 (c := 1) (L' := [(2, 52), (0, a0), (0, a1), (0, a2), (0, x20), (0, (i6 + 1))]) zr_34_85 rfl (by decide) (by omega) rfl ?_
              refine zw_42 zr_34_88 ?_
              exact zw_less (L := [(2, 52), (0, a0), (0, a1), (0, a2), (0, x20), (0, (i6 + 1))]) ⟨Or.inr rfl, Or.inr rfl, Or.inr rfl, Or.inr rfl, Or.inr rfl, Or.inr rfl, trivial⟩ (ihlp27_9 (x20) ((i6 + 1)) (f8) m14 hIm14 hFm14   fm14_54 (by omega) (by omega) (by omega) (by omega) (by first | exact zY_next hv0lp27_9 | exact zY_next (by assumption)) (by omega))
            · intro h35; omega
          · intro h36
            refine zw_push zr_28_27 ?_
            refine zw_42 zr_28_28 ?_
            refine zw_R zr_28_32 (by decide) zm_28 (v := (0, 1)) (zRetB (by omega)) ?_
            rw [← hQ1]
            show zW E (d) 34 71 [(2, 52), (0, a0), (0, a1), (0, a2), (0, x20), (0, i6)] [(0, 1)] m14 Q
            refine zw_40_1 zr_34_71 ?_ ?_
            · intro h37; omega
            · intro h38
              refine zw_7 zr_34_74 rfl ?_
              refine zw_4 zr_34_75 rfl ?_
              refine zw_3 zr_34_77 rfl ?_
              refine zw_3 zr_34_78 rfl ?_
              refine zw_C zr_34_79 (Or.inl rfl) zm_33 rfl rfl ⟨Nat.le_of_ble_eq_true rfl, Nat.le_of_ble_eq_true rfl, Nat.le_of_ble_eq_true rfl, rfl, by decide⟩ (by omega) (th_33 (d := d - 1) (by omega) hIm14 (a0 := x20) (a1 := a1) (a2 := a2)  (gY := i6) (F54 := f8)  fm14_54 (by omega) (by omega) (by omega) (hv0lp27_9) (by omega)) ?_
              rintro _ m41 ⟨rfl, hIm41, gm41, po0_m41⟩
              have hFm41 : zFr W_34 m0 m41 := hFm14.trans gm41 rfl
              have km41_1_1 : m41 1 1 = f11 := (gm41 1 1 rfl).trans km14_1_1
              obtain ⟨f42, fm41_54⟩ : ∃ f, m41 54 = f := ⟨_, rfl⟩
              try rw [fm41_54] at po0_m41
              show zW E (d) 34 82 [(2, 52), (0, a0), (0, a1), (0, a2), (0, x20), (0, i6)] [] m41 Q
              refine zw_push zr_34_82 ?_
              refine zw_10 (L' := [(2, 52), (0, a0), (0, a1), (0, a2), (0, 0), (0, i6)]) zr_34_83 (Nat.le_of_ble_eq_true rfl) rfl ?_
              refine zw_15 (c := 1) (L' := [(2, 52), (0, a0), (0, a1), (0, a2), (0, 0), (0, (i6 + 1))]) zr_34_85 rfl (by decide) (by omega) rfl ?_
              refine zw_42 zr_34_88 ?_
              exact zw_less (L := [(2, 52), (0, a0), (0, a1), (0, a2), (0, 0), (0, (i6 + 1))]) ⟨Or.inr rfl, Or.inr rfl, Or.inr rfl, Or.inr rfl, Or.inr rfl, Or.inr rfl, trivial⟩ (ihlp27_9 (0) ((i6 + 1)) (f42) m41 hIm41 hFm41   fm41_54 (by omega) (by omega) (by omega) (by omega) (by first | exact zY_next hv0lp27_9 | exact zY_next (by assumption)) (by omega))
  exact lp27_9 _ (0) (0) (f3) m4 hIm4 hFm4  fm4_54 (by omega) (by omega) (by omega) (by omega) (zY_fil (by assumption)) (Nat.lt_succ_self _)

abbrev W_123 : List (Nat × Nat) := [(42, 0), (42, 1), (43, 5), (44, 1000), (45, 1), (45, 5), (45, 6), (45, 7), (45, 8), (45, 9), (46, 1000), (47, 1000), (48, 1000), (49, 1000), (50, 1000), (51, 1000), (52, 0), (52, 1), (52, 2), (53, 1000), (54, 1000)]
set_option maxHeartbeats 8000000 in
theorem th_123 {E : zE} {d : Nat} {m0 : zM} {a0 : Int} {a1 : Int} {a2 : Int} (hd : 96 ≤ d) (hI0 : zInv m0) (ha0 : (-2147483648) ≤ a0 ∧ a0 ≤ 2147483647) (ha1 : (-2147483648) ≤ a1 ∧ a1 ≤ 2147483647) (ha2 : (-2147483648) ≤ a2 ∧ a2 ≤ 2147483647) : zC E d 123 [(2, 0), (0, a0), (0, a1), (0, a2)] m0 (fun v m' => ∃ r : Int, v = (0, r) ∧ (-2) ≤ r ∧ r ≤ 9 ∧ zInv m' ∧ zFr W_123 m0 m') := by
  have hF0 : zFr W_123 m0 m0 := zFr.rfl
  generalize hQ : (fun (v : zV) (m' : zM) => ∃ r : Int, v = (0, r) ∧ (-2) ≤ r ∧ r ≤ 9 ∧ zInv m' ∧ zFr W_123 m0 m') = Q
  show zW E d 123 0 [(2, 0), (0, a0), (0, a1), (0, a2)] [] m0 Q
  refine zw_3 zr_123_0 rfl ?_
  refine zw_C zr_123_1 (Or.inr rfl) zm_104 rfl rfl ⟨Nat.le_of_ble_eq_true rfl, Nat.le_of_ble_eq_true rfl, Nat.le_of_ble_eq_true rfl, rfl, by decide⟩ (by omega) (P := (fun v m' => zW E (d) 123 4 [(2, 0), (0, a0), (0, a1), (0, a2)] (if v.1 = 9 then [] else v :: []) m' Q)) ?_ (fun _ _ h => h)
  generalize hQ1 : (fun v m' => zW E (d) 123 4 [(2, 0), (0, a0), (0, a1), (0, a2)] (if v.1 = 9 then [] else v :: []) m' Q) = Q1
  show zW E (d - 1) 104 0 [(0, a0)] [] m0 Q1
  refine zw_3 zr_104_0 rfl ?_
  refine zw_push zr_104_1 ?_
  refine zw_push zr_104_2 ?_
  refine zw_C zr_104_3 (Or.inr rfl) zm_100 rfl rfl ⟨Nat.le_of_ble_eq_true rfl, Nat.le_of_ble_eq_true rfl, Nat.le_of_ble_eq_true rfl, rfl, by decide⟩ (by omega) (P := (fun v m' => zW E (d - 1) 104 6 [(0, a0)] (if v.1 = 9 then [] else v :: []) m' Q1)) ?_ (fun _ _ h => h)
  generalize hQ2 : (fun v m' => zW E (d - 1) 104 6 [(0, a0)] (if v.1 = 9 then [] else v :: []) m' Q1) = Q2
  show zW E (d - 1 - 1) 100 0 [(0, a0), (0, 0), (0, 3)] [] m0 Q2
  refine zw_3 zr_100_0 rfl ?_
  refine zw_3 zr_100_1 rfl ?_
  refine zw_41_0 zr_100_2 ?_ ?_
  · intro h1
    refine zw_push zr_100_14 ?_
    refine zw_R zr_100_15 (by decide) zm_100 (v := (0, 0)) (zRetB (by omega)) ?_
    rw [← hQ2]
    show zW E (d - 1) 104 6 [(0, a0)] [(0, 0)] m0 Q1
    refine zw_R zr_104_6 (by decide) zm_104 (v := (0, 0)) (zRetB (by omega)) ?_
    rw [← hQ1]
    show zW E (d) 123 4 [(2, 0), (0, a0), (0, a1), (0, a2)] [(0, 0)] m0 Q
    refine zw_40_1 zr_123_4 ?_ ?_
    · intro h2
      refine zw_push zr_123_16 ?_
      refine zw_R zr_123_18 (by decide) zm_123 (v := (0, (-2))) rfl ?_
      rw [← hQ]; exact ⟨_, rfl, by omega, by omega, hI0, hF0⟩
    · intro h3; omega
  · intro h4
    refine zw_3 zr_100_5 rfl ?_
    refine zw_3 zr_100_6 rfl ?_
    refine zw_41_2 zr_100_7 ?_ ?_
    · intro h5
      refine zw_push zr_100_14 ?_
      refine zw_R zr_100_15 (by decide) zm_100 (v := (0, 0)) (zRetB (by omega)) ?_
      rw [← hQ2]
      show zW E (d - 1) 104 6 [(0, a0)] [(0, 0)] m0 Q1
      refine zw_R zr_104_6 (by decide) zm_104 (v := (0, 0)) (zRetB (by omega)) ?_
      rw [← hQ1]
      show zW E (d) 123 4 [(2, 0), (0, a0), (0, a1), (0, a2)] [(0, 0)] m0 Q
      refine zw_40_1 zr_123_4 ?_ ?_
      · intro h6
        refine zw_push zr_123_16 ?_
        refine zw_R zr_123_18 (by decide) zm_123 (v := (0, (-2))) rfl ?_
        rw [← hQ]; exact ⟨_, rfl, by omega, by omega, hI0, hF0⟩
      · intro h7; omega
    · intro h8
      refine zw_push zr_100_10 ?_
      refine zw_42 zr_100_11 ?_
      refine zw_R zr_100_15 (by decide) zm_100 (v := (0, 1)) (zRetB (by omega)) ?_
      rw [← hQ2]
      show zW E (d - 1) 104 6 [(0, a0)] [(0, 1)] m0 Q1
      refine zw_R zr_104_6 (by decide) zm_104 (v := (0, 1)) (zRetB (by omega)) ?_
      rw [← hQ1]
      show zW E (d) 123 4 [(2, 0), (0, a0), (0, a1), (0, a2)] [(0, 1)] m0 Q
      refine zw_40_1 zr_123_4 ?_ ?_
      · intro h9; omega
      · intro h10
        refine zw_3 zr_123_7 rfl ?_
        refine zw_push zr_123_8 ?_
        refine zw_push zr_123_9 ?_
        refine zw_C zr_123_10 (Or.inr rfl) zm_100 rfl rfl ⟨Nat.le_of_ble_eq_true rfl, Nat.le_of_ble_eq_true rfl, Nat.le_of_ble_eq_true rfl, rfl, by decide⟩ (by omega) (P := (fun v m' => zW E (d) 123 13 [(2, 0), (0, a0), (0, a1), (0, a2)] (if v.1 = 9 then [] else v :: []) m' Q)) ?_ (fun _ _ h => h)
        generalize hQ1 : (fun v m' => zW E (d) 123 13 [(2, 0), (0, a0), (0, a1), (0, a2)] (if v.1 = 9 then [] else v :: []) m' Q) = Q1
        show zW E (d - 1) 100 0 [(0, a1), (0, 0), (0, 2)] [] m0 Q1
        refine zw_3 zr_100_0 rfl ?_
        refine zw_3 zr_100_1 rfl ?_
        refine zw_41_0 zr_100_2 ?_ ?_
        · intro h11
          refine zw_push zr_100_14 ?_
          refine zw_R zr_100_15 (by decide) zm_100 (v := (0, 0)) (zRetB (by omega)) ?_
          rw [← hQ1]
          show zW E (d) 123 13 [(2, 0), (0, a0), (0, a1), (0, a2)] [(0, 0)] m0 Q
          refine zw_40_4 zr_123_13 ?_ ?_
          · intro h12; omega
          · intro h13
            refine zw_push zr_123_16 ?_
            refine zw_R zr_123_18 (by decide) zm_123 (v := (0, (-2))) rfl ?_
            rw [← hQ]; exact ⟨_, rfl, by omega, by omega, hI0, hF0⟩
        · intro h14
          refine zw_3 zr_100_5 rfl ?_
          refine zw_3 zr_100_6 rfl ?_
          refine zw_41_2 zr_100_7 ?_ ?_
          · intro h15
            refine zw_push zr_100_14 ?_
            refine zw_R zr_100_15 (by decide) zm_100 (v := (0, 0)) (zRetB (by omega)) ?_
            rw [← hQ1]
            show zW E (d) 123 13 [(2, 0), (0, a0), (0, a1), (0, a2)] [(0, 0)] m0 Q
            refine zw_40_4 zr_123_13 ?_ ?_
            · intro h16; omega
            · intro h17
              refine zw_push zr_123_16 ?_
              refine zw_R zr_123_18 (by decide) zm_123 (v := (0, (-2))) rfl ?_
              rw [← hQ]; exact ⟨_, rfl, by omega, by omega, hI0, hF0⟩
          · intro h18
            refine zw_push zr_100_10 ?_
            refine zw_42 zr_100_11 ?_
            refine zw_R zr_100_15 (by decide) zm_100 (v := (0, 1)) (zRetB (by omega)) ?_
            rw [← hQ1]
            show zW E (d) 123 13 [(2, 0), (0, a0), (0, a1), (0, a2)] [(0, 1)] m0 Q
            refine zw_40_4 zr_123_13 ?_ ?_
            · intro h19
              refine zw_3 zr_123_19 rfl ?_
              refine zw_push zr_123_20 ?_
              refine zw_41_4 zr_123_21 ?_ ?_
              · intro h20
                refine zw_7 zr_123_37 rfl ?_
                refine zw_46r (s := 52) zr_123_38 rfl rfl rfl rfl ?_
                refine zw_3 zr_123_41 rfl ?_
                refine zw_3 zr_123_42 rfl ?_
                refine zw_3 zr_123_43 rfl ?_
                refine zw_C zr_123_44 (Or.inl rfl) zm_34 rfl rfl ⟨Nat.le_of_ble_eq_true rfl, Nat.le_of_ble_eq_true rfl, Nat.le_of_ble_eq_true rfl, rfl, by decide⟩ (by omega) (th_34 (d := d - 1) (by omega) hI0 (a0 := a0) (a1 := a1) (a2 := a2)   (F54 := m0 54)  rfl (by omega) (by omega) (by omega) ) ?_
                rintro _ m21 ⟨rfl, hIm21, gm21⟩
                have hFm21 : zFr W_123 m0 m21 := hF0.trans gm21 rfl
                show zW E (d) 123 47 [(2, 0), (0, a0), (0, a1), (0, a2)] [] m21 Q
                refine zw_3 zr_123_47 rfl ?_
                refine zw_push zr_123_48 ?_
                refine zw_41_4 zr_123_49 ?_ ?_
                · intro h22
                  refine zw_7 zr_123_84 rfl ?_
                  refine zw_46r (s := 52) zr_123_85 rfl rfl rfl rfl ?_
                  obtain ⟨f23, ef23⟩ : ∃ v, m21 52 0 = v := ⟨_, rfl⟩
                  have bf23 := ib_52_0 hIm21
                  rw [ef23] at bf23
                  refine zw_46i zr_123_88 ef23 rfl rfl rfl ?_
                  refine zw_R zr_123_91 (by decide) zm_123 (v := (0, f23)) rfl ?_
                  rw [← hQ]; exact ⟨_, rfl, by omega, by omega, hIm21, hFm21⟩
                · intro h24
                  refine zw_7 zr_123_52 rfl ?_
                  refine zw_46r (s := 52) zr_123_53 rfl rfl rfl rfl ?_
                  obtain ⟨f25, ef25⟩ : ∃ v, m21 52 0 = v := ⟨_, rfl⟩
                  have bf25 := ib_52_0 hIm21
                  rw [ef25] at bf25
                  refine zw_46i zr_123_56 ef25 rfl rfl rfl ?_
                  refine zw_push zr_123_59 ?_
                  refine zw_41_1 zr_123_60 ?_ ?_
                  · intro h26
                    refine zw_7 zr_123_84 rfl ?_
                    refine zw_46r (s := 52) zr_123_85 rfl rfl rfl rfl ?_
                    refine zw_46i zr_123_88 ef25 rfl rfl rfl ?_
                    refine zw_R zr_123_91 (by decide) zm_123 (v := (0, f25)) rfl ?_
                    rw [← hQ]; exact ⟨_, rfl, by omega, by omega, hIm21, hFm21⟩
                  · intro h27
                    refine zw_7 zr_123_63 rfl ?_
                    refine zw_46r (s := 42) zr_123_64 rfl rfl rfl rfl ?_
                    refine zw_7 zr_123_67 rfl ?_
                    refine zw_46r (s := 52) zr_123_68 rfl rfl rfl rfl ?_
                    obtain ⟨f28, ef28⟩ : ∃ v, m21 52 1 = v := ⟨_, rfl⟩
                    have bf28 := hIm21.fl (c := 52) (k := 1) rfl
                    rw [ef28] at bf28
                    refine zw_46l zr_123_71 ef28 rfl rfl rfl ?_
                    refine zw_7 zr_123_74 rfl ?_
                    refine zw_46r (s := 52) zr_123_75 rfl rfl rfl rfl ?_
                    obtain ⟨f29, ef29⟩ : ∃ v, m21 52 2 = v := ⟨_, rfl⟩
                    have bf29 := hIm21.fl (c := 52) (k := 2) rfl
                    rw [ef29] at bf29
                    refine zw_46l zr_123_78 ef29 rfl rfl rfl ?_
                    refine zw_C zr_123_81 (Or.inl rfl) zm_38 rfl rfl ⟨Nat.le_of_ble_eq_true rfl, Nat.le_of_ble_eq_true rfl, Nat.le_of_ble_eq_true rfl, rfl, by decide⟩ (by omega) (th_38 (d := d - 1) (by omega) hIm21 (a0 := f28) (a1 := f29)      (by omega) (by omega) ) ?_
                    rintro _ m30 ⟨rfl, hIm30, gm30⟩
                    have hFm30 : zFr W_123 m0 m30 := hFm21.trans gm30 rfl
                    have km30_52_0 : m30 52 0 = f25 := (gm30 52 0 rfl).trans ef25
                    have km30_52_1 : m30 52 1 = f28 := (gm30 52 1 rfl).trans ef28
                    have km30_52_2 : m30 52 2 = f29 := (gm30 52 2 rfl).trans ef29
                    show zW E (d) 123 84 [(2, 0), (0, a0), (0, a1), (0, a2)] [] m30 Q
                    refine zw_7 zr_123_84 rfl ?_
                    refine zw_46r (s := 52) zr_123_85 rfl rfl rfl rfl ?_
                    refine zw_46i zr_123_88 km30_52_0 rfl rfl rfl ?_
                    refine zw_R zr_123_91 (by decide) zm_123 (v := (0, f25)) rfl ?_
                    rw [← hQ]; exact ⟨_, rfl, by omega, by omega, hIm30, hFm30⟩
              · intro h31
                refine zw_3 zr_123_24 rfl ?_
                refine zw_push zr_123_25 ?_
                refine zw_push zr_123_26 ?_
                refine zw_C zr_123_28 (Or.inr rfl) zm_100 rfl rfl ⟨Nat.le_of_ble_eq_true rfl, Nat.le_of_ble_eq_true rfl, Nat.le_of_ble_eq_true rfl, rfl, by decide⟩ (by omega) (P := (fun v m' => zW E (d) 123 31 [(2, 0), (0, a0), (0, a1), (0, a2)] (if v.1 = 9 then [] else v :: []) m' Q)) ?_ (fun _ _ h => h)
                generalize hQ1 : (fun v m' => zW E (d) 123 31 [(2, 0), (0, a0), (0, a1), (0, a2)] (if v.1 = 9 then [] else v :: []) m' Q) = Q1
                show zW E (d - 1) 100 0 [(0, a2), (0, 1), (0, 9)] [] m0 Q1
                refine zw_3 zr_100_0 rfl ?_
                refine zw_3 zr_100_1 rfl ?_
                refine zw_41_0 zr_100_2 ?_ ?_
                · intro h32
                  refine zw_push zr_100_14 ?_
                  refine zw_R zr_100_15 (by decide) zm_100 (v := (0, 0)) (zRetB (by omega)) ?_
                  rw [← hQ1]
                  show zW E (d) 123 31 [(2, 0), (0, a0), (0, a1), (0, a2)] [(0, 0)] m0 Q
                  refine zw_40_4 zr_123_31 ?_ ?_
                  · intro h33; omega
                  · intro h34
                    refine zw_push zr_123_34 ?_
                    refine zw_R zr_123_36 (by decide) zm_123 (v := (0, (-2))) rfl ?_
                    rw [← hQ]; exact ⟨_, rfl, by omega, by omega, hI0, hF0⟩
                · intro h35
                  refine zw_3 zr_100_5 rfl ?_
                  refine zw_3 zr_100_6 rfl ?_
                  refine zw_41_2 zr_100_7 ?_ ?_
                  · intro h36
                    refine zw_push zr_100_14 ?_
                    refine zw_R zr_100_15 (by decide) zm_100 (v := (0, 0)) (zRetB (by omega)) ?_
                    rw [← hQ1]
                    show zW E (d) 123 31 [(2, 0), (0, a0), (0, a1), (0, a2)] [(0, 0)] m0 Q
                    refine zw_40_4 zr_123_31 ?_ ?_
                    · intro h37; omega
                    · intro h38
                      refine zw_push zr_123_34 ?_
                      refine zw_R zr_123_36 (by decide) zm_123 (v := (0, (-2))) rfl ?_
                      rw [← hQ]; exact ⟨_, rfl, by omega, by omega, hI0, hF0⟩
                  · intro h39
                    refine zw_push zr_100_10 ?_
                    refine zw_42 zr_100_11 ?_
                    refine zw_R zr_100_15 (by decide) zm_100 (v := (0, 1)) (zRetB (by omega)) ?_
                    rw [← hQ1]
                    show zW E (d) 123 31 [(2, 0), (0, a0), (0, a1), (0, a2)] [(0, 1)] m0 Q
                    refine zw_40_4 zr_123_31 ?_ ?_
                    · intro h40
                      refine zw_7 zr_123_37 rfl ?_
                      refine zw_46r (s := 52) zr_123_38 rfl rfl rfl rfl ?_
                      refine zw_3 zr_123_41 rfl ?_
                      refine zw_3 zr_123_42 rfl ?_
                      refine zw_3 zr_123_43 rfl ?_
                      refine zw_C zr_123_44 (Or.inl rfl) zm_34 rfl rfl ⟨Nat.le_of_ble_eq_true rfl, Nat.le_of_ble_eq_true rfl, Nat.le_of_ble_eq_true rfl, rfl, by decide⟩ (by omega) (th_34 (d := d - 1) (by omega) hI0 (a0 := a0) (a1 := a1) (a2 := a2)   (F54 := m0 54)  rfl (by omega) (by omega) (by omega) ) ?_
                      rintro _ m41 ⟨rfl, hIm41, gm41⟩
                      have hFm41 : zFr W_123 m0 m41 := hF0.trans gm41 rfl
                      show zW E (d) 123 47 [(2, 0), (0, a0), (0, a1), (0, a2)] [] m41 Q
                      refine zw_3 zr_123_47 rfl ?_
                      refine zw_push zr_123_48 ?_
                      refine zw_41_4 zr_123_49 ?_ ?_
                      · intro h42
                        refine zw_7 zr_123_84 rfl ?_
                        refine zw_46r (s := 52) zr_123_85 rfl rfl rfl rfl ?_
                        obtain ⟨f43, ef43⟩ : ∃ v, m41 52 0 = v := ⟨_, rfl⟩
                        have bf43 := ib_52_0 hIm41
                        rw [ef43] at bf43
                        refine zw_46i zr_123_88 ef43 rfl rfl rfl ?_
                        refine zw_R zr_123_91 (by decide) zm_123 (v := (0, f43)) rfl ?_
                        rw [← hQ]; exact ⟨_, rfl, by omega, by omega, hIm41, hFm41⟩
                      · intro h44; omega
                    · intro h45; omega
            · intro h46; omega
