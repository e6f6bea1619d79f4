set_option maxHeartbeats 8000000 in
theorem th_138 {E : zE} {d : Nat} {m0 : zM} (hd : 3 ≤ d) (hI0 : zInv m0) : zC E d 138 [(2, 0)] m0 (fun v m' => ∃ r : Int, v = (1, r) ∧ (-9223372036854775808) ≤ r ∧ r ≤ 9223372036854775807 ∧ m0 = m') := by
  generalize hQ : (fun (v : zV) (m' : zM) => ∃ r : Int, v = (1, r) ∧ (-9223372036854775808) ≤ r ∧ r ≤ 9223372036854775807 ∧ m0 = m') = Q
  show zW E d 138 0 [(2, 0), (9, 0), (9, 0), (9, 0)] [] m0 Q
  refine zw_push zr_138_0 ?_
  refine zw_13 (L' := [(2, 0), (1, 449), (9, 0), (9, 0)]) zr_138_3 (Nat.le_of_ble_eq_true rfl) rfl ?_
  refine zw_push zr_138_4 ?_
  refine zw_9 (L' := [(2, 0), (1, 449), (9, 0), (0, 0)]) zr_138_5 (Nat.le_of_ble_eq_true rfl) rfl ?_
  have lp6_3 : ∀ (nlp6_3 : Nat) (i1 i2 : Int), (-9223372036854775808) ≤ i1 → i1 ≤ 9223372036854775807 → 0 ≤ i2 → i2 ≤ 4 → (4 - i2).toNat < nlp6_3 → zW E (d) 138 6 [(2, 0), (1, i1), (9, 0), (0, i2)] [] m0 Q := by
    intro nlp6_3
    induction nlp6_3 with
    | zero =>
      intros
      exact absurd (by assumption : _ < 0) (Nat.not_lt_zero _)
    | succ nlp6_3 ihlp6_3 =>
      intro i1 i2 li1 ui1 li2 ui2 hmlp6_3
      refine zw_3 zr_138_6 rfl ?_
      refine zw_push zr_138_7 ?_
      refine zw_41_3 zr_138_8 ?_ ?_
      · intro h5
        refine zw_7 zr_138_30 rfl ?_
        refine zw_46r (s := 1) zr_138_31 rfl rfl rfl rfl ?_
        refine zw_5 zr_138_34 rfl ?_
        refine zw_C zr_138_35 (Or.inl rfl) zm_64 rfl rfl ⟨Nat.le_of_ble_eq_true rfl, Nat.le_of_ble_eq_true rfl, Nat.le_of_ble_eq_true rfl, rfl, by decide⟩ (by omega) (th_64 (d := d - 1) (by omega) hI0 (a0 := i1)      (by omega) ) ?_
        rintro _ _ ⟨r6, rfl, hr6a, hr6b, rfl⟩
        show zW E (d) 138 38 [(2, 0), (1, i1), (9, 0), (0, i2)] [(1, r6)] m0 Q
        refine zw_13 (L' := [(2, 0), (1, r6), (9, 0), (0, i2)]) zr_138_38 (Nat.le_of_ble_eq_true rfl) rfl ?_
        refine zw_push zr_138_39 ?_
        refine zw_5 zr_138_42 rfl ?_
        refine zw_29h zr_138_43 ?_
        intro x7 hx7a hx7b
        refine zw_7 zr_138_44 rfl ?_
        refine zw_46r (s := 42) zr_138_45 rfl rfl rfl rfl ?_
        obtain ⟨f8, ef8⟩ : ∃ v, m0 42 0 = v := ⟨_, rfl⟩
        have bf8 := hI0.fl (c := 42) (k := 0) rfl
        rw [ef8] at bf8
        refine zw_46l zr_138_48 ef8 rfl rfl rfl ?_
        refine zw_27h zr_138_51 ?_
        intro x9 hx9a hx9b
        refine zw_13 (L' := [(2, 0), (1, x9), (9, 0), (0, i2)]) zr_138_52 (Nat.le_of_ble_eq_true rfl) rfl ?_
        refine zw_push zr_138_53 ?_
        refine zw_5 zr_138_56 rfl ?_
        refine zw_29h zr_138_57 ?_
        intro x10 hx10a hx10b
        refine zw_7 zr_138_58 rfl ?_
        refine zw_46r (s := 42) zr_138_59 rfl rfl rfl rfl ?_
        obtain ⟨f11, ef11⟩ : ∃ v, m0 42 1 = v := ⟨_, rfl⟩
        have bf11 := hI0.fl (c := 42) (k := 1) rfl
        rw [ef11] at bf11
        refine zw_46l zr_138_62 ef11 rfl rfl rfl ?_
        refine zw_27h zr_138_65 ?_
        intro x12 hx12a hx12b
        refine zw_R zr_138_66 (by decide) zm_138 (v := (1, x12)) rfl ?_
        rw [← hQ]; exact ⟨_, rfl, by omega, by omega, rfl⟩
      · intro h13
        refine zw_push zr_138_11 ?_
        refine zw_5 zr_138_14 rfl ?_
        refine zw_29h zr_138_15 ?_
        intro x14 hx14a hx14b
        refine zw_7 zr_138_16 rfl ?_
        refine zw_3 zr_138_17 rfl ?_
        refine zw_C zr_138_18 (Or.inl rfl) zm_137 rfl rfl ⟨Nat.le_of_ble_eq_true rfl, Nat.le_of_ble_eq_true rfl, Nat.le_of_ble_eq_true rfl, rfl, by decide⟩ (by omega) (th_137 (d := d - 1) (by omega) hI0 (a0 := i2)      (by omega) ) ?_
        rintro _ _ ⟨r15, rfl, hr15a, hr15b, rfl⟩
        show zW E (d) 138 21 [(2, 0), (1, i1), (9, 0), (0, i2)] [(0, r15), (1, x14)] m0 Q
        refine zw_36 zr_138_21 ?_
        refine zw_27h zr_138_22 ?_
        intro x16 hx16a hx16b
        refine zw_13 (L' := [(2, 0), (1, x16), (9, 0), (0, i2)]) zr_138_23 (Nat.le_of_ble_eq_true rfl) rfl ?_
        refine zw_15 (c := 1) (L' := [(2, 0), (1, x16), (9, 0), (0, (i2 + 1))]) zr_138_24 rfl (by decide) (by omega) rfl ?_
        refine zw_42 zr_138_27 ?_
        exact zw_less (L := [(2, 0), (1, x16), (9, 0), (0, (i2 + 1))]) ⟨Or.inr rfl, Or.inr rfl, Or.inl rfl, Or.inr rfl, trivial⟩ (ihlp6_3 (x16) ((i2 + 1))  (by omega) (by omega) (by omega) (by omega)  (by omega))
  exact lp6_3 _ (449) (0)  (by omega) (by omega) (by omega) (by omega)  (Nat.lt_succ_self _)

set_option maxHeartbeats 8000000 in
theorem th_211 {E : zE} {d : Nat} {m0 : zM} {a0 : Int} {a1 : Int} {a2 : Int} (hd : 1 ≤ d) (hI0 : zInv m0) (ha0 : (-9223372036854775808) ≤ a0 ∧ a0 ≤ 9223372036854775807) (ha1 : 10 ≤ a1 ∧ a1 ≤ 826) (ha2 : 0 ≤ a2 ∧ a2 ≤ 360) (hp0 : a1 + a2 ≤ 826) : zC E d 211 [(2, 69), (1, a0), (0, a1), (0, a2)] m0 (fun v m' => ∃ r : Int, v = (1, r) ∧ (-9223372036854775808) ≤ r ∧ r ≤ 9223372036854775807 ∧ m0 = m') := by
  generalize hQ : (fun (v : zV) (m' : zM) => ∃ r : Int, v = (1, r) ∧ (-9223372036854775808) ≤ r ∧ r ≤ 9223372036854775807 ∧ m0 = m') = Q
  show zW E d 211 0 [(2, 69), (1, a0), (9, 0), (0, a1), (0, a2), (9, 0), (9, 0), (9, 0)] [] m0 Q
  refine zw_5 zr_211_0 rfl ?_
  refine zw_14 (L' := [(2, 69), (1, a0), (9, 0), (0, a1), (0, a2), (1, a0), (9, 0), (9, 0)]) zr_211_1 (Nat.le_of_ble_eq_true rfl) rfl ?_
  refine zw_push zr_211_3 ?_
  refine zw_10 (L' := [(2, 69), (1, a0), (9, 0), (0, a1), (0, a2), (1, a0), (9, 0), (0, 0)]) zr_211_4 (Nat.le_of_ble_eq_true rfl) rfl ?_
  have lp6_3 : ∀ (nlp6_3 : Nat) (i1 i2 : Int), (-9223372036854775808) ≤ i1 → i1 ≤ 9223372036854775807 → 0 ≤ i2 → i2 ≤ 360 → (360 - i2).toNat < nlp6_3 → zW E (d) 211 6 [(2, 69), (1, a0), (9, 0), (0, a1), (0, a2), (1, i1), (9, 0), (0, i2)] [] m0 Q := by
    intro nlp6_3
    induction nlp6_3 with
    | zero =>
      intros
      exact absurd (by assumption : _ < 0) (Nat.not_lt_zero _)
    | succ nlp6_3 ihlp6_3 =>
      intro i1 i2 li1 ui1 li2 ui2 hmlp6_3
      refine zw_4 zr_211_6 rfl ?_
      refine zw_4 zr_211_8 rfl ?_
      refine zw_41_3 zr_211_10 ?_ ?_
      · intro h5
        refine zw_6 zr_211_38 rfl ?_
        refine zw_R zr_211_40 (by decide) zm_211 (v := (1, i1)) rfl ?_
        rw [← hQ]; exact ⟨_, rfl, by omega, by omega, rfl⟩
      · intro h6
        refine zw_push zr_211_13 ?_
        refine zw_6 zr_211_16 rfl ?_
        refine zw_29h zr_211_18 ?_
        intro x7 hx7a hx7b
        refine zw_7 zr_211_19 rfl ?_
        refine zw_46r (s := 70) zr_211_20 rfl rfl rfl rfl ?_
        refine zw_3 zr_211_23 rfl ?_
        refine zw_4 zr_211_24 rfl ?_
        refine zw_16 zr_211_26 (by omega) ?_
        refine zw_48 (c := 70) (len := 826) zr_211_27 rfl rfl (by omega) (by omega) ?_
        intro x8 ex8
        have bx8 := hI0.ra (c := 70) (len := 826) (k := ((a1 + i2)).toNat) rfl (by omega)
        rw [← ex8] at bx8
        clear ex8
        refine zw_36 zr_211_28 ?_
        refine zw_27h zr_211_29 ?_
        intro x9 hx9a hx9b
        refine zw_14 (L' := [(2, 69), (1, a0), (9, 0), (0, a1), (0, a2), (1, x9), (9, 0), (0, i2)]) zr_211_30 (Nat.le_of_ble_eq_true rfl) rfl ?_
        refine zw_15 (c := 1) (L' := [(2, 69), (1, a0), (9, 0), (0, a1), (0, a2), (1, x9), (9, 0), (0, (i2 + 1))]) zr_211_32 rfl (by decide) (by omega) rfl ?_
        refine zw_42 zr_211_35 ?_
        exact zw_less (L := [(2, 69), (1, a0), (9, 0), (0, a1), (0, a2), (1, x9), (9, 0), (0, (i2 + 1))]) ⟨Or.inr rfl, Or.inr rfl, Or.inl rfl, Or.inr rfl, Or.inr rfl, Or.inr rfl, Or.inl rfl, Or.inr rfl, trivial⟩ (ihlp6_3 (x9) ((i2 + 1))  (by omega) (by omega) (by omega) (by omega)  (by omega))
  exact lp6_3 _ (a0) (0)  (by omega) (by omega) (by omega) (by omega)  (Nat.lt_succ_self _)

set_option maxHeartbeats 8000000 in
theorem th_212 {E : zE} {d : Nat} {m0 : zM} (hd : 3 ≤ d) (hI0 : zInv m0) : zC E d 212 [(2, 69)] m0 (fun v m' => ∃ r : Int, v = (1, r) ∧ (-9223372036854775808) ≤ r ∧ r ≤ 9223372036854775807 ∧ m0 = m') := by
  generalize hQ : (fun (v : zV) (m' : zM) => ∃ r : Int, v = (1, r) ∧ (-9223372036854775808) ≤ r ∧ r ≤ 9223372036854775807 ∧ m0 = m') = Q
  show zW E d 212 0 [(2, 69), (9, 0), (9, 0), (9, 0)] [] m0 Q
  refine zw_push zr_212_0 ?_
  refine zw_13 (L' := [(2, 69), (1, 449), (9, 0), (9, 0)]) zr_212_3 (Nat.le_of_ble_eq_true rfl) rfl ?_
  refine zw_push zr_212_4 ?_
  refine zw_9 (L' := [(2, 69), (1, 449), (9, 0), (0, 0)]) zr_212_5 (Nat.le_of_ble_eq_true rfl) rfl ?_
  have lp6_3 : ∀ (nlp6_3 : Nat) (i1 i2 : Int), (-9223372036854775808) ≤ i1 → i1 ≤ 9223372036854775807 → 0 ≤ i2 → i2 ≤ 4 → (4 - i2).toNat < nlp6_3 → zW E (d) 212 6 [(2, 69), (1, i1), (9, 0), (0, i2)] [] m0 Q := by
    intro nlp6_3
    induction nlp6_3 with
    | zero =>
      intros
      exact absurd (by assumption : _ < 0) (Nat.not_lt_zero _)
    | succ nlp6_3 ihlp6_3 =>
      intro i1 i2 li1 ui1 li2 ui2 hmlp6_3
      refine zw_3 zr_212_6 rfl ?_
      refine zw_push zr_212_7 ?_
      refine zw_41_3 zr_212_8 ?_ ?_
      · intro h5
        refine zw_push zr_212_30 ?_
        refine zw_9 (L' := [(2, 69), (1, i1), (9, 0), (0, 0)]) zr_212_31 (Nat.le_of_ble_eq_true rfl) rfl ?_
        have lp32_8 : ∀ (nlp32_8 : Nat) (i6 i7 : Int), (-9223372036854775808) ≤ i6 → i6 ≤ 9223372036854775807 → 0 ≤ i7 → i7 ≤ 10 → (10 - i7).toNat < nlp32_8 → zW E (d) 212 32 [(2, 69), (1, i6), (9, 0), (0, i7)] [] m0 Q := by
          intro nlp32_8
          induction nlp32_8 with
          | zero =>
            intros
            exact absurd (by assumption : _ < 0) (Nat.not_lt_zero _)
          | succ nlp32_8 ihlp32_8 =>
            intro i6 i7 li6 ui6 li7 ui7 hmlp32_8
            refine zw_3 zr_212_32 rfl ?_
            refine zw_7 zr_212_33 rfl ?_
            refine zw_C zr_212_34 (Or.inl rfl) zm_141 rfl rfl ⟨Nat.le_of_ble_eq_true rfl, Nat.le_of_ble_eq_true rfl, Nat.le_of_ble_eq_true rfl, rfl, by decide⟩ (by omega) (P := (fun v m' => zW E (d) 212 37 [(2, 69), (1, i6), (9, 0), (0, i7)] (if v.1 = 9 then [(0, i7)] else v :: [(0, i7)]) m' Q)) ?_ (fun _ _ h => h)
            generalize hQ1 : (fun v m' => zW E (d) 212 37 [(2, 69), (1, i6), (9, 0), (0, i7)] (if v.1 = 9 then [(0, i7)] else v :: [(0, i7)]) m' Q) = Q1
            show zW E (d - 1) 141 0 [(2, 69)] [] m0 Q1
            refine zw_7 zr_141_0 rfl ?_
            refine zw_46r (s := 70) zr_141_1 rfl rfl rfl rfl ?_
            refine zw_push zr_141_4 ?_
            obtain ⟨f10, ef10⟩ : ∃ v, m0 70 822 = v := ⟨_, rfl⟩
            have bf10 : 0 ≤ m0 70 822 ∧ m0 70 822 ≤ 10 := ib_70_players hI0 (by omega)
            rw [ef10] at bf10
            refine zw_48k (c := 70) (len := 826) zr_141_7 rfl rfl (by omega) (by omega) (show (822 : Int).toNat = 822 by omega) ef10 ?_
            refine zw_R zr_141_8 (by decide) zm_141 (v := (0, f10)) rfl ?_
            rw [← hQ1]
            show zW E (d) 212 37 [(2, 69), (1, i6), (9, 0), (0, i7)] [(0, f10), (0, i7)] m0 Q
            refine zw_41_3 zr_212_37 ?_ ?_
            · intro h11
              refine zw_7 zr_212_75 rfl ?_
              refine zw_5 zr_212_76 rfl ?_
              refine zw_push zr_212_77 ?_
              refine zw_push zr_212_79 ?_
              refine zw_7 zr_212_81 rfl ?_
              refine zw_C zr_212_82 (Or.inl rfl) zm_142 rfl rfl ⟨Nat.le_of_ble_eq_true rfl, Nat.le_of_ble_eq_true rfl, Nat.le_of_ble_eq_true rfl, rfl, by decide⟩ (by omega) (P := (fun v m' => zW E (d) 212 85 [(2, 69), (1, i6), (9, 0), (0, i7)] (if v.1 = 9 then [(0, 6), (0, 90), (1, i6), (2, 69)] else v :: [(0, 6), (0, 90), (1, i6), (2, 69)]) m' Q)) ?_ (fun _ _ h => h)
              generalize hQ1 : (fun v m' => zW E (d) 212 85 [(2, 69), (1, i6), (9, 0), (0, i7)] (if v.1 = 9 then [(0, 6), (0, 90), (1, i6), (2, 69)] else v :: [(0, 6), (0, 90), (1, i6), (2, 69)]) m' Q) = Q1
              show zW E (d - 1) 142 0 [(2, 69)] [] m0 Q1
              refine zw_7 zr_142_0 rfl ?_
              refine zw_46r (s := 70) zr_142_1 rfl rfl rfl rfl ?_
              refine zw_push zr_142_4 ?_
              obtain ⟨f12, ef12⟩ : ∃ v, m0 70 823 = v := ⟨_, rfl⟩
              have bf12 : 0 ≤ m0 70 823 ∧ m0 70 823 ≤ 60 := ib_70_meetings hI0 (by omega)
              rw [ef12] at bf12
              refine zw_48k (c := 70) (len := 826) zr_142_7 rfl rfl (by omega) (by omega) (show (823 : Int).toNat = 823 by omega) ef12 ?_
              refine zw_R zr_142_8 (by decide) zm_142 (v := (0, f12)) rfl ?_
              rw [← hQ1]
              show zW E (d) 212 85 [(2, 69), (1, i6), (9, 0), (0, i7)] [(0, f12), (0, 6), (0, 90), (1, i6), (2, 69)] m0 Q
              refine zw_18 zr_212_85 (by omega) ?_
              refine zw_C zr_212_86 (Or.inl rfl) zm_211 rfl rfl ⟨Nat.le_of_ble_eq_true rfl, Nat.le_of_ble_eq_true rfl, Nat.le_of_ble_eq_true rfl, rfl, by decide⟩ (by omega) (th_211 (d := d - 1) (by omega) hI0 (a0 := i6) (a1 := 90) (a2 := (6 * f12))      (by omega) (by omega) (by omega) (by omega)) ?_
              rintro _ _ ⟨r13, rfl, hr13a, hr13b, rfl⟩
              show zW E (d) 212 89 [(2, 69), (1, i6), (9, 0), (0, i7)] [(1, r13)] m0 Q
              refine zw_13 (L' := [(2, 69), (1, r13), (9, 0), (0, i7)]) zr_212_89 (Nat.le_of_ble_eq_true rfl) rfl ?_
              refine zw_push zr_212_90 ?_
              refine zw_9 (L' := [(2, 69), (1, r13), (9, 0), (0, 0)]) zr_212_91 (Nat.le_of_ble_eq_true rfl) rfl ?_
              have lp92_16 : ∀ (nlp92_16 : Nat) (i14 i15 : Int), (-9223372036854775808) ≤ i14 → i14 ≤ 9223372036854775807 → 0 ≤ i15 → i15 ≤ 4 → (4 - i15).toNat < nlp92_16 → zW E (d) 212 92 [(2, 69), (1, i14), (9, 0), (0, i15)] [] m0 Q := by
                intro nlp92_16
                induction nlp92_16 with
                | zero =>
                  intros
                  exact absurd (by assumption : _ < 0) (Nat.not_lt_zero _)
                | succ nlp92_16 ihlp92_16 =>
                  intro i14 i15 li14 ui14 li15 ui15 hmlp92_16
                  refine zw_3 zr_212_92 rfl ?_
                  refine zw_push zr_212_93 ?_
                  refine zw_41_3 zr_212_94 ?_ ?_
                  · intro h18
                    refine zw_7 zr_212_134 rfl ?_
                    refine zw_5 zr_212_135 rfl ?_
                    refine zw_push zr_212_136 ?_
                    refine zw_push zr_212_139 ?_
                    refine zw_C zr_212_142 (Or.inl rfl) zm_211 rfl rfl ⟨Nat.le_of_ble_eq_true rfl, Nat.le_of_ble_eq_true rfl, Nat.le_of_ble_eq_true rfl, rfl, by decide⟩ (by omega) (th_211 (d := d - 1) (by omega) hI0 (a0 := i14) (a1 := 658) (a2 := 160)      (by omega) (by omega) (by omega) (by omega)) ?_
                    rintro _ _ ⟨r19, rfl, hr19a, hr19b, rfl⟩
                    show zW E (d) 212 145 [(2, 69), (1, i14), (9, 0), (0, i15)] [(1, r19)] m0 Q
                    refine zw_13 (L' := [(2, 69), (1, r19), (9, 0), (0, i15)]) zr_212_145 (Nat.le_of_ble_eq_true rfl) rfl ?_
                    refine zw_7 zr_212_146 rfl ?_
                    refine zw_7 zr_212_147 rfl ?_
                    refine zw_5 zr_212_148 rfl ?_
                    refine zw_push zr_212_149 ?_
                    refine zw_push zr_212_152 ?_
                    refine zw_C zr_212_153 (Or.inl rfl) zm_211 rfl rfl ⟨Nat.le_of_ble_eq_true rfl, Nat.le_of_ble_eq_true rfl, Nat.le_of_ble_eq_true rfl, rfl, by decide⟩ (by omega) (th_211 (d := d - 1) (by omega) hI0 (a0 := r19) (a1 := 824) (a2 := 2)      (by omega) (by omega) (by omega) (by omega)) ?_
                    rintro _ _ ⟨r20, rfl, hr20a, hr20b, rfl⟩
                    show zW E (d) 212 156 [(2, 69), (1, r19), (9, 0), (0, i15)] [(1, r20), (2, 69)] m0 Q
                    refine zw_push zr_212_156 ?_
                    refine zw_push zr_212_159 ?_
                    refine zw_C zr_212_160 (Or.inl rfl) zm_211 rfl rfl ⟨Nat.le_of_ble_eq_true rfl, Nat.le_of_ble_eq_true rfl, Nat.le_of_ble_eq_true rfl, rfl, by decide⟩ (by omega) (th_211 (d := d - 1) (by omega) hI0 (a0 := r20) (a1 := 818) (a2 := 4)      (by omega) (by omega) (by omega) (by omega)) ?_
                    rintro _ _ ⟨r21, rfl, hr21a, hr21b, rfl⟩
                    show zW E (d) 212 163 [(2, 69), (1, r19), (9, 0), (0, i15)] [(1, r21)] m0 Q
                    refine zw_13 (L' := [(2, 69), (1, r21), (9, 0), (0, i15)]) zr_212_163 (Nat.le_of_ble_eq_true rfl) rfl ?_
                    refine zw_push zr_212_164 ?_
                    refine zw_push zr_212_167 ?_
                    refine zw_5 zr_212_170 rfl ?_
                    refine zw_29h zr_212_171 ?_
                    intro x22 hx22a hx22b
                    refine zw_7 zr_212_172 rfl ?_
                    obtain ⟨f23, ef23⟩ : ∃ v, m0 69 3 = v := ⟨_, rfl⟩
                    have bf23 := hI0.fl (c := 69) (k := 3) rfl
                    rw [ef23] at bf23
                    refine zw_46l zr_212_173 ef23 rfl rfl rfl ?_
                    refine zw_27h zr_212_176 ?_
                    intro x24 hx24a hx24b
                    refine zw_29h zr_212_177 ?_
                    intro x25 hx25a hx25b
                    refine zw_7 zr_212_178 rfl ?_
                    obtain ⟨f26, ef26⟩ : ∃ v, m0 69 4 = v := ⟨_, rfl⟩
                    have bf26 := hI0.fl (c := 69) (k := 4) rfl
                    rw [ef26] at bf26
                    refine zw_46l zr_212_179 ef26 rfl rfl rfl ?_
                    refine zw_27h zr_212_182 ?_
                    intro x27 hx27a hx27b
                    refine zw_R zr_212_183 (by decide) zm_212 (v := (1, x27)) rfl ?_
                    rw [← hQ]; exact ⟨_, rfl, by omega, by omega, rfl⟩
                  · intro h28
                    refine zw_7 zr_212_97 rfl ?_
                    refine zw_5 zr_212_98 rfl ?_
                    refine zw_push zr_212_99 ?_
                    refine zw_push zr_212_102 ?_
                    refine zw_3 zr_212_104 rfl ?_
                    refine zw_18 zr_212_105 (by omega) ?_
                    refine zw_16 zr_212_106 (by omega) ?_
                    refine zw_push zr_212_107 ?_
                    refine zw_7 zr_212_108 rfl ?_
                    refine zw_46r (s := 70) zr_212_109 rfl rfl rfl rfl ?_
                    refine zw_push zr_212_112 ?_
                    refine zw_push zr_212_115 ?_
                    refine zw_3 zr_212_117 rfl ?_
                    refine zw_18 zr_212_118 (by omega) ?_
                    refine zw_16 zr_212_119 (by omega) ?_
                    refine zw_push zr_212_120 ?_
                    refine zw_16 zr_212_121 (by omega) ?_
                    refine zw_48 (c := 70) (len := 826) zr_212_122 rfl rfl (by omega) (by omega) ?_
                    intro x29 ex29
                    have bx29 := ib_70_s1 hI0 (k := (((450 + (52 * i15)) + 1)).toNat) (by omega)
                    rw [← ex29] at bx29
                    clear ex29
                    refine zw_16 zr_212_123 (by omega) ?_
                    refine zw_C zr_212_124 (Or.inl rfl) zm_211 rfl rfl ⟨Nat.le_of_ble_eq_true rfl, Nat.le_of_ble_eq_true rfl, Nat.le_of_ble_eq_true rfl, rfl, by decide⟩ (by omega) (th_211 (d := d - 1) (by omega) hI0 (a0 := i14) (a1 := (450 + (52 * i15))) (a2 := (2 + x29))      (by omega) (by omega) (by omega) (by omega)) ?_
                    rintro _ _ ⟨r30, rfl, hr30a, hr30b, rfl⟩
                    show zW E (d) 212 127 [(2, 69), (1, i14), (9, 0), (0, i15)] [(1, r30)] m0 Q
                    refine zw_13 (L' := [(2, 69), (1, r30), (9, 0), (0, i15)]) zr_212_127 (Nat.le_of_ble_eq_true rfl) rfl ?_
                    refine zw_15 (c := 1) (L' := [(2, 69), (1, r30), (9, 0), (0, (i15 + 1))]) zr_212_128 rfl (by decide) (by omega) rfl ?_
                    refine zw_42 zr_212_131 ?_
                    exact zw_less (L := [(2, 69), (1, r30), (9, 0), (0, (i15 + 1))]) ⟨Or.inr rfl, Or.inr rfl, Or.inl rfl, Or.inr rfl, trivial⟩ (ihlp92_16 (r30) ((i15 + 1))  (by omega) (by omega) (by omega) (by omega)  (by omega))
              exact lp92_16 _ (r13) (0)  (by omega) (by omega) (by omega) (by omega)  (Nat.lt_succ_self _)
            · intro h31
              refine zw_7 zr_212_40 rfl ?_
              refine zw_push zr_212_41 ?_
              refine zw_5 zr_212_44 rfl ?_
              refine zw_29h zr_212_45 ?_
              intro x32 hx32a hx32b
              refine zw_7 zr_212_46 rfl ?_
              refine zw_46r (s := 70) zr_212_47 rfl rfl rfl rfl ?_
              refine zw_push zr_212_50 ?_
              refine zw_3 zr_212_51 rfl ?_
              refine zw_16 zr_212_52 (by omega) ?_
              refine zw_48 (c := 70) (len := 826) zr_212_53 rfl rfl (by omega) (by omega) ?_
              intro x33 ex33
              have bx33 := ib_70_born hI0 (k := ((0 + i7)).toNat) (by omega)
              rw [← ex33] at bx33
              clear ex33
              refine zw_36 zr_212_54 ?_
              refine zw_27h zr_212_55 ?_
              intro x34 hx34a hx34b
              refine zw_push zr_212_56 ?_
              refine zw_push zr_212_58 ?_
              refine zw_3 zr_212_60 rfl ?_
              refine zw_18 zr_212_61 (by omega) ?_
              refine zw_16 zr_212_62 (by omega) ?_
              refine zw_push zr_212_63 ?_
              refine zw_C zr_212_65 (Or.inl rfl) zm_211 rfl rfl ⟨Nat.le_of_ble_eq_true rfl, Nat.le_of_ble_eq_true rfl, Nat.le_of_ble_eq_true rfl, rfl, by decide⟩ (by omega) (th_211 (d := d - 1) (by omega) hI0 (a0 := x34) (a1 := (10 + (8 * i7))) (a2 := 8)      (by omega) (by omega) (by omega) (by omega)) ?_
              rintro _ _ ⟨r35, rfl, hr35a, hr35b, rfl⟩
              show zW E (d) 212 68 [(2, 69), (1, i6), (9, 0), (0, i7)] [(1, r35)] m0 Q
              refine zw_13 (L' := [(2, 69), (1, r35), (9, 0), (0, i7)]) zr_212_68 (Nat.le_of_ble_eq_true rfl) rfl ?_
              refine zw_15 (c := 1) (L' := [(2, 69), (1, r35), (9, 0), (0, (i7 + 1))]) zr_212_69 rfl (by decide) (by omega) rfl ?_
              refine zw_42 zr_212_72 ?_
              exact zw_less (L := [(2, 69), (1, r35), (9, 0), (0, (i7 + 1))]) ⟨Or.inr rfl, Or.inr rfl, Or.inl rfl, Or.inr rfl, trivial⟩ (ihlp32_8 (r35) ((i7 + 1))  (by omega) (by omega) (by omega) (by omega)  (by omega))
        exact lp32_8 _ (i1) (0)  (by omega) (by omega) (by omega) (by omega)  (Nat.lt_succ_self _)
      · intro h36
        refine zw_push zr_212_11 ?_
        refine zw_5 zr_212_14 rfl ?_
        refine zw_29h zr_212_15 ?_
        intro x37 hx37a hx37b
        refine zw_7 zr_212_16 rfl ?_
        refine zw_3 zr_212_17 rfl ?_
        refine zw_C zr_212_18 (Or.inl rfl) zm_210 rfl rfl ⟨Nat.le_of_ble_eq_true rfl, Nat.le_of_ble_eq_true rfl, Nat.le_of_ble_eq_true rfl, rfl, by decide⟩ (by omega) (th_210 (d := d - 1) (by omega) hI0 (a0 := i2)      (by omega) ) ?_
        rintro _ _ ⟨r38, rfl, hr38a, hr38b, rfl⟩
        show zW E (d) 212 21 [(2, 69), (1, i1), (9, 0), (0, i2)] [(0, r38), (1, x37)] m0 Q
        refine zw_36 zr_212_21 ?_
        refine zw_27h zr_212_22 ?_
        intro x39 hx39a hx39b
        refine zw_13 (L' := [(2, 69), (1, x39), (9, 0), (0, i2)]) zr_212_23 (Nat.le_of_ble_eq_true rfl) rfl ?_
        refine zw_15 (c := 1) (L' := [(2, 69), (1, x39), (9, 0), (0, (i2 + 1))]) zr_212_24 rfl (by decide) (by omega) rfl ?_
        refine zw_42 zr_212_27 ?_
        exact zw_less (L := [(2, 69), (1, x39), (9, 0), (0, (i2 + 1))]) ⟨Or.inr rfl, Or.inr rfl, Or.inl rfl, Or.inr rfl, trivial⟩ (ihlp6_3 (x39) ((i2 + 1))  (by omega) (by omega) (by omega) (by omega)  (by omega))
  exact lp6_3 _ (449) (0)  (by omega) (by omega) (by omega) (by omega)  (Nat.lt_succ_self _)
