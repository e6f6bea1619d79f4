set_option maxHeartbeats 8000000 in
theorem th_63 {E : zE} {d : Nat} {m0 : zM} {a0 : Int} (hd : 1 ≤ d) (hI0 : zInv m0) (ha0 : (-9223372036854775808) ≤ a0 ∧ a0 ≤ 9223372036854775807) : zC E d 63 [(2, 1), (1, a0)] m0 (fun v m' => ∃ r : Int, v = (1, r) ∧ (-9223372036854775808) ≤ r ∧ r ≤ 9223372036854775807 ∧ m' = m0) := by
  generalize hQ : (fun (v : zV) (m' : zM) => ∃ r : Int, v = (1, r) ∧ (-9223372036854775808) ≤ r ∧ r ≤ 9223372036854775807 ∧ m' = m0) = Q
  show zW E d 63 0 [(2, 1), (1, a0), (9, 0), (9, 0), (9, 0), (9, 0)] [] m0 Q
  refine zw_5 zr_63_0 rfl ?_
  refine zw_13 (L' := [(2, 1), (1, a0), (9, 0), (1, a0), (9, 0), (9, 0)]) zr_63_1 (Nat.le_of_ble_eq_true rfl) rfl ?_
  refine zw_push zr_63_2 ?_
  refine zw_10 (L' := [(2, 1), (1, a0), (9, 0), (1, a0), (9, 0), (0, 0)]) zr_63_3 (Nat.le_of_ble_eq_true rfl) rfl ?_
  have lp5_3 : ∀ (nlp5_3 : Nat) (i1 i2 : Int), (-9223372036854775808) ≤ i1 → i1 ≤ 9223372036854775807 → 0 ≤ i2 → i2 ≤ 60 → (60 - i2).toNat < nlp5_3 → zW E (d) 63 5 [(2, 1), (1, a0), (9, 0), (1, i1), (9, 0), (0, i2)] [] m0 Q := by
    intro nlp5_3
    induction nlp5_3 with
    | zero =>
      intros
      exact absurd (by assumption : _ < 0) (Nat.not_lt_zero _)
    | succ nlp5_3 ihlp5_3 =>
      intro i1 i2 li1 ui1 li2 ui2 hmlp5_3
      refine zw_4 zr_63_5 rfl ?_
      refine zw_7 zr_63_7 rfl ?_
      obtain ⟨f5, ef5⟩ : ∃ v, m0 1 1 = v := ⟨_, rfl⟩
      have bf5 := ib_1_1 hI0
      rw [ef5] at bf5
      refine zw_46i zr_63_8 ef5 rfl rfl rfl ?_
      refine zw_41_3 zr_63_11 ?_ ?_
      · intro h6
        refine zw_5 zr_63_112 rfl ?_
        refine zw_R zr_63_113 (by decide) zm_63 (v := (1, i1)) rfl ?_
        rw [← hQ]; exact ⟨_, rfl, by omega, by omega, rfl⟩
      · intro h7
        refine zw_push zr_63_14 ?_
        refine zw_5 zr_63_17 rfl ?_
        refine zw_29h zr_63_18 ?_
        intro x8 hx8a hx8b
        refine zw_7 zr_63_19 rfl ?_
        refine zw_46r (s := 5) zr_63_20 rfl rfl rfl rfl ?_
        refine zw_4 zr_63_23 rfl ?_
        refine zw_48 (c := 5) (len := 60) zr_63_25 rfl rfl (by omega) (by omega) ?_
        intro x9 ex9
        have bx9 := ib_5 hI0 (k := (i2).toNat) (by omega)
        rw [← ex9] at bx9
        clear ex9
        refine zw_36 zr_63_26 ?_
        refine zw_27h zr_63_27 ?_
        intro x10 hx10a hx10b
        refine zw_13 (L' := [(2, 1), (1, a0), (9, 0), (1, x10), (9, 0), (0, i2)]) zr_63_28 (Nat.le_of_ble_eq_true rfl) rfl ?_
        refine zw_push zr_63_29 ?_
        refine zw_5 zr_63_32 rfl ?_
        refine zw_29h zr_63_33 ?_
        intro x11 hx11a hx11b
        refine zw_7 zr_63_34 rfl ?_
        refine zw_46r (s := 6) zr_63_35 rfl rfl rfl rfl ?_
        refine zw_4 zr_63_38 rfl ?_
        refine zw_48 (c := 6) (len := 60) zr_63_40 rfl rfl (by omega) (by omega) ?_
        intro x12 ex12
        have bx12 := ib_6 hI0 (k := (i2).toNat) (by omega)
        rw [← ex12] at bx12
        clear ex12
        refine zw_36 zr_63_41 ?_
        refine zw_27h zr_63_42 ?_
        intro x13 hx13a hx13b
        refine zw_13 (L' := [(2, 1), (1, a0), (9, 0), (1, x13), (9, 0), (0, i2)]) zr_63_43 (Nat.le_of_ble_eq_true rfl) rfl ?_
        refine zw_push zr_63_44 ?_
        refine zw_5 zr_63_47 rfl ?_
        refine zw_29h zr_63_48 ?_
        intro x14 hx14a hx14b
        refine zw_7 zr_63_49 rfl ?_
        refine zw_46r (s := 7) zr_63_50 rfl rfl rfl rfl ?_
        refine zw_4 zr_63_53 rfl ?_
        refine zw_48 (c := 7) (len := 60) zr_63_55 rfl rfl (by omega) (by omega) ?_
        intro x15 ex15
        have bx15 := ib_7 hI0 (k := (i2).toNat) (by omega)
        rw [← ex15] at bx15
        clear ex15
        refine zw_36 zr_63_56 ?_
        refine zw_27h zr_63_57 ?_
        intro x16 hx16a hx16b
        refine zw_13 (L' := [(2, 1), (1, a0), (9, 0), (1, x16), (9, 0), (0, i2)]) zr_63_58 (Nat.le_of_ble_eq_true rfl) rfl ?_
        refine zw_push zr_63_59 ?_
        refine zw_5 zr_63_62 rfl ?_
        refine zw_29h zr_63_63 ?_
        intro x17 hx17a hx17b
        refine zw_7 zr_63_64 rfl ?_
        refine zw_46r (s := 8) zr_63_65 rfl rfl rfl rfl ?_
        refine zw_4 zr_63_68 rfl ?_
        refine zw_48 (c := 8) (len := 60) zr_63_70 rfl rfl (by omega) (by omega) ?_
        intro x18 ex18
        have bx18 := ib_8 hI0 (k := (i2).toNat) (by omega)
        rw [← ex18] at bx18
        clear ex18
        refine zw_36 zr_63_71 ?_
        refine zw_27h zr_63_72 ?_
        intro x19 hx19a hx19b
        refine zw_13 (L' := [(2, 1), (1, a0), (9, 0), (1, x19), (9, 0), (0, i2)]) zr_63_73 (Nat.le_of_ble_eq_true rfl) rfl ?_
        refine zw_push zr_63_74 ?_
        refine zw_5 zr_63_77 rfl ?_
        refine zw_29h zr_63_78 ?_
        intro x20 hx20a hx20b
        refine zw_7 zr_63_79 rfl ?_
        obtain ⟨f21, ef21⟩ : ∃ v, m0 1 2 = v := ⟨_, rfl⟩
        have bf21 := hI0.fl (c := 1) (k := 2) rfl
        rw [ef21] at bf21
        refine zw_46l zr_63_80 ef21 rfl rfl rfl ?_
        refine zw_4 zr_63_83 rfl ?_
        refine zw_34h zr_63_85 ?_
        intro x22 hx22a hx22b
        refine zw_push zr_63_86 ?_
        refine zw_30h zr_63_87 ?_
        intro x23 hx23a hx23b
        refine zw_27h zr_63_88 ?_
        intro x24 hx24a hx24b
        refine zw_13 (L' := [(2, 1), (1, a0), (9, 0), (1, x24), (9, 0), (0, i2)]) zr_63_89 (Nat.le_of_ble_eq_true rfl) rfl ?_
        refine zw_push zr_63_90 ?_
        refine zw_5 zr_63_93 rfl ?_
        refine zw_29h zr_63_94 ?_
        intro x25 hx25a hx25b
        refine zw_7 zr_63_95 rfl ?_
        obtain ⟨f26, ef26⟩ : ∃ v, m0 1 3 = v := ⟨_, rfl⟩
        have bf26 := hI0.fl (c := 1) (k := 3) rfl
        rw [ef26] at bf26
        refine zw_46l zr_63_96 ef26 rfl rfl rfl ?_
        refine zw_4 zr_63_99 rfl ?_
        refine zw_34h zr_63_101 ?_
        intro x27 hx27a hx27b
        refine zw_push zr_63_102 ?_
        refine zw_30h zr_63_103 ?_
        intro x28 hx28a hx28b
        refine zw_27h zr_63_104 ?_
        intro x29 hx29a hx29b
        refine zw_13 (L' := [(2, 1), (1, a0), (9, 0), (1, x29), (9, 0), (0, i2)]) zr_63_105 (Nat.le_of_ble_eq_true rfl) rfl ?_
        refine zw_15 (c := 1) (L' := [(2, 1), (1, a0), (9, 0), (1, x29), (9, 0), (0, (i2 + 1))]) zr_63_106 rfl (by decide) (by omega) rfl ?_
        refine zw_42 zr_63_109 ?_
        exact zw_less (L := [(2, 1), (1, a0), (9, 0), (1, x29), (9, 0), (0, (i2 + 1))]) ⟨Or.inr rfl, Or.inr rfl, Or.inl rfl, Or.inr rfl, Or.inl rfl, Or.inr rfl, trivial⟩ (ihlp5_3 (x29) ((i2 + 1))  (by omega) (by omega) (by omega) (by omega) (by omega))
  exact lp5_3 _ (a0) (0)  (by omega) (by omega) (by omega) (by omega) (Nat.lt_succ_self _)

set_option maxHeartbeats 8000000 in
theorem th_64 {E : zE} {d : Nat} {m0 : zM} {a0 : Int} (hd : 2 ≤ d) (hI0 : zInv m0) (ha0 : (-9223372036854775808) ≤ a0 ∧ a0 ≤ 9223372036854775807) : zC E d 64 [(2, 1), (1, a0)] m0 (fun v m' => ∃ r : Int, v = (1, r) ∧ (-9223372036854775808) ≤ r ∧ r ≤ 9223372036854775807 ∧ m' = m0) := by
  generalize hQ : (fun (v : zV) (m' : zM) => ∃ r : Int, v = (1, r) ∧ (-9223372036854775808) ≤ r ∧ r ≤ 9223372036854775807 ∧ m' = m0) = Q
  show zW E d 64 0 [(2, 1), (1, a0), (9, 0), (9, 0), (9, 0), (9, 0), (9, 0)] [] m0 Q
  refine zw_7 zr_64_0 rfl ?_
  refine zw_5 zr_64_1 rfl ?_
  refine zw_C zr_64_2 (Or.inl rfl) zm_62 rfl rfl ⟨Nat.le_of_ble_eq_true rfl, Nat.le_of_ble_eq_true rfl, Nat.le_of_ble_eq_true rfl, rfl, by decide⟩ (by omega) (th_62 (d := d - 1) (by omega) hI0 (a0 := a0)   (by omega)) ?_
  rintro _ _ ⟨r1, rfl, hr1a, hr1b, rfl⟩
  show zW E (d) 64 5 [(2, 1), (1, a0), (9, 0), (9, 0), (9, 0), (9, 0), (9, 0)] [(1, r1)] m0 Q
  refine zw_13 (L' := [(2, 1), (1, a0), (9, 0), (1, r1), (9, 0), (9, 0), (9, 0)]) zr_64_5 (Nat.le_of_ble_eq_true rfl) rfl ?_
  refine zw_7 zr_64_6 rfl ?_
  refine zw_5 zr_64_7 rfl ?_
  refine zw_C zr_64_8 (Or.inl rfl) zm_63 rfl rfl ⟨Nat.le_of_ble_eq_true rfl, Nat.le_of_ble_eq_true rfl, Nat.le_of_ble_eq_true rfl, rfl, by decide⟩ (by omega) (th_63 (d := d - 1) (by omega) hI0 (a0 := r1)   (by omega)) ?_
  rintro _ _ ⟨r2, rfl, hr2a, hr2b, rfl⟩
  show zW E (d) 64 11 [(2, 1), (1, a0), (9, 0), (1, r1), (9, 0), (9, 0), (9, 0)] [(1, r2)] m0 Q
  refine zw_13 (L' := [(2, 1), (1, a0), (9, 0), (1, r2), (9, 0), (9, 0), (9, 0)]) zr_64_11 (Nat.le_of_ble_eq_true rfl) rfl ?_
  refine zw_push zr_64_12 ?_
  refine zw_10 (L' := [(2, 1), (1, a0), (9, 0), (1, r2), (9, 0), (0, 0), (9, 0)]) zr_64_13 (Nat.le_of_ble_eq_true rfl) rfl ?_
  have lp15_5 : ∀ (nlp15_5 : Nat) (i3 i4 : Int), (-9223372036854775808) ≤ i3 → i3 ≤ 9223372036854775807 → 0 ≤ i4 → i4 ≤ 4 → (4 - i4).toNat < nlp15_5 → zW E (d) 64 15 [(2, 1), (1, a0), (9, 0), (1, i3), (9, 0), (0, i4), (9, 0)] [] m0 Q := by
    intro nlp15_5
    induction nlp15_5 with
    | zero =>
      intros
      exact absurd (by assumption : _ < 0) (Nat.not_lt_zero _)
    | succ nlp15_5 ihlp15_5 =>
      intro i3 i4 li3 ui3 li4 ui4 hmlp15_5
      refine zw_4 zr_64_15 rfl ?_
      refine zw_push zr_64_17 ?_
      refine zw_41_3 zr_64_18 ?_ ?_
      · intro h7
        refine zw_push zr_64_99 ?_
        refine zw_10 (L' := [(2, 1), (1, a0), (9, 0), (1, i3), (9, 0), (0, 0), (9, 0)]) zr_64_100 (Nat.le_of_ble_eq_true rfl) rfl ?_
        have lp102_10 : ∀ (nlp102_10 : Nat) (i8 i9 : Int), (-9223372036854775808) ≤ i8 → i8 ≤ 9223372036854775807 → 0 ≤ i9 → i9 ≤ 160 → (160 - i9).toNat < nlp102_10 → zW E (d) 64 102 [(2, 1), (1, a0), (9, 0), (1, i8), (9, 0), (0, i9), (9, 0)] [] m0 Q := by
          intro nlp102_10
          induction nlp102_10 with
          | zero =>
            intros
            exact absurd (by assumption : _ < 0) (Nat.not_lt_zero _)
          | succ nlp102_10 ihlp102_10 =>
            intro i8 i9 li8 ui8 li9 ui9 hmlp102_10
            refine zw_4 zr_64_102 rfl ?_
            refine zw_push zr_64_104 ?_
            refine zw_41_3 zr_64_107 ?_ ?_
            · intro h12
              refine zw_push zr_64_131 ?_
              refine zw_5 zr_64_134 rfl ?_
              refine zw_29h zr_64_135 ?_
              intro x13 hx13a hx13b
              refine zw_7 zr_64_136 rfl ?_
              obtain ⟨f14, ef14⟩ : ∃ v, m0 1 4 = v := ⟨_, rfl⟩
              have bf14 := ib_1_4 hI0
              rw [ef14] at bf14
              refine zw_46i zr_64_137 ef14 rfl rfl rfl ?_
              refine zw_36 zr_64_140 ?_
              refine zw_27h zr_64_141 ?_
              intro x15 hx15a hx15b
              refine zw_13 (L' := [(2, 1), (1, a0), (9, 0), (1, x15), (9, 0), (0, i9), (9, 0)]) zr_64_142 (Nat.le_of_ble_eq_true rfl) rfl ?_
              refine zw_push zr_64_143 ?_
              refine zw_5 zr_64_146 rfl ?_
              refine zw_29h zr_64_147 ?_
              intro x16 hx16a hx16b
              refine zw_7 zr_64_148 rfl ?_
              obtain ⟨f17, ef17⟩ : ∃ v, m0 1 5 = v := ⟨_, rfl⟩
              have bf17 := ib_1_5 hI0
              rw [ef17] at bf17
              refine zw_46i zr_64_149 ef17 rfl rfl rfl ?_
              refine zw_36 zr_64_152 ?_
              refine zw_27h zr_64_153 ?_
              intro x18 hx18a hx18b
              refine zw_13 (L' := [(2, 1), (1, a0), (9, 0), (1, x18), (9, 0), (0, i9), (9, 0)]) zr_64_154 (Nat.le_of_ble_eq_true rfl) rfl ?_
              refine zw_push zr_64_155 ?_
              refine zw_10 (L' := [(2, 1), (1, a0), (9, 0), (1, x18), (9, 0), (0, 0), (9, 0)]) zr_64_156 (Nat.le_of_ble_eq_true rfl) rfl ?_
              have lp158_21 : ∀ (nlp158_21 : Nat) (i19 i20 : Int), (-9223372036854775808) ≤ i19 → i19 ≤ 9223372036854775807 → 0 ≤ i20 → i20 ≤ 4 → (4 - i20).toNat < nlp158_21 → zW E (d) 64 158 [(2, 1), (1, a0), (9, 0), (1, i19), (9, 0), (0, i20), (9, 0)] [] m0 Q := by
                intro nlp158_21
                induction nlp158_21 with
                | zero =>
                  intros
                  exact absurd (by assumption : _ < 0) (Nat.not_lt_zero _)
                | succ nlp158_21 ihlp158_21 =>
                  intro i19 i20 li19 ui19 li20 ui20 hmlp158_21
                  refine zw_4 zr_64_158 rfl ?_
                  refine zw_push zr_64_160 ?_
                  refine zw_41_3 zr_64_161 ?_ ?_
                  · intro h23
                    refine zw_5 zr_64_185 rfl ?_
                    refine zw_R zr_64_186 (by decide) zm_64 (v := (1, i19)) rfl ?_
                    rw [← hQ]; exact ⟨_, rfl, by omega, by omega, rfl⟩
                  · intro h24
                    refine zw_push zr_64_164 ?_
                    refine zw_5 zr_64_167 rfl ?_
                    refine zw_29h zr_64_168 ?_
                    intro x25 hx25a hx25b
                    refine zw_7 zr_64_169 rfl ?_
                    refine zw_46r (s := 13) zr_64_170 rfl rfl rfl rfl ?_
                    refine zw_4 zr_64_173 rfl ?_
                    refine zw_48 (c := 13) (len := 4) zr_64_175 rfl rfl (by omega) (by omega) ?_
                    intro x26 ex26
                    have bx26 := ib_13 hI0 (k := (i20).toNat) (by omega)
                    rw [← ex26] at bx26
                    clear ex26
                    refine zw_36 zr_64_176 ?_
                    refine zw_27h zr_64_177 ?_
                    intro x27 hx27a hx27b
                    refine zw_13 (L' := [(2, 1), (1, a0), (9, 0), (1, x27), (9, 0), (0, i20), (9, 0)]) zr_64_178 (Nat.le_of_ble_eq_true rfl) rfl ?_
                    refine zw_15 (c := 1) (L' := [(2, 1), (1, a0), (9, 0), (1, x27), (9, 0), (0, (i20 + 1)), (9, 0)]) zr_64_179 rfl (by decide) (by omega) rfl ?_
                    refine zw_42 zr_64_182 ?_
                    exact zw_less (L := [(2, 1), (1, a0), (9, 0), (1, x27), (9, 0), (0, (i20 + 1)), (9, 0)]) ⟨Or.inr rfl, Or.inr rfl, Or.inl rfl, Or.inr rfl, Or.inl rfl, Or.inr rfl, Or.inl rfl, trivial⟩ (ihlp158_21 (x27) ((i20 + 1))  (by omega) (by omega) (by omega) (by omega) (by omega))
              exact lp158_21 _ (x18) (0)  (by omega) (by omega) (by omega) (by omega) (Nat.lt_succ_self _)
            · intro h28
              refine zw_push zr_64_110 ?_
              refine zw_5 zr_64_113 rfl ?_
              refine zw_29h zr_64_114 ?_
              intro x29 hx29a hx29b
              refine zw_7 zr_64_115 rfl ?_
              refine zw_46r (s := 12) zr_64_116 rfl rfl rfl rfl ?_
              refine zw_4 zr_64_119 rfl ?_
              refine zw_48 (c := 12) (len := 160) zr_64_121 rfl rfl (by omega) (by omega) ?_
              intro x30 ex30
              have bx30 := ib_12 hI0 (k := (i9).toNat) (by omega)
              rw [← ex30] at bx30
              clear ex30
              refine zw_36 zr_64_122 ?_
              refine zw_27h zr_64_123 ?_
              intro x31 hx31a hx31b
              refine zw_13 (L' := [(2, 1), (1, a0), (9, 0), (1, x31), (9, 0), (0, i9), (9, 0)]) zr_64_124 (Nat.le_of_ble_eq_true rfl) rfl ?_
              refine zw_15 (c := 1) (L' := [(2, 1), (1, a0), (9, 0), (1, x31), (9, 0), (0, (i9 + 1)), (9, 0)]) zr_64_125 rfl (by decide) (by omega) rfl ?_
              refine zw_42 zr_64_128 ?_
              exact zw_less (L := [(2, 1), (1, a0), (9, 0), (1, x31), (9, 0), (0, (i9 + 1)), (9, 0)]) ⟨Or.inr rfl, Or.inr rfl, Or.inl rfl, Or.inr rfl, Or.inl rfl, Or.inr rfl, Or.inl rfl, trivial⟩ (ihlp102_10 (x31) ((i9 + 1))  (by omega) (by omega) (by omega) (by omega) (by omega))
        exact lp102_10 _ (i3) (0)  (by omega) (by omega) (by omega) (by omega) (Nat.lt_succ_self _)
      · intro h32
        refine zw_push zr_64_21 ?_
        refine zw_5 zr_64_24 rfl ?_
        refine zw_29h zr_64_25 ?_
        intro x33 hx33a hx33b
        refine zw_7 zr_64_26 rfl ?_
        refine zw_46r (s := 9) zr_64_27 rfl rfl rfl rfl ?_
        refine zw_4 zr_64_30 rfl ?_
        refine zw_48 (c := 9) (len := 4) zr_64_32 rfl rfl (by omega) (by omega) ?_
        intro x34 ex34
        have bx34 := ib_9 hI0 (k := (i4).toNat) (by omega)
        rw [← ex34] at bx34
        clear ex34
        refine zw_36 zr_64_33 ?_
        refine zw_27h zr_64_34 ?_
        intro x35 hx35a hx35b
        refine zw_13 (L' := [(2, 1), (1, a0), (9, 0), (1, x35), (9, 0), (0, i4), (9, 0)]) zr_64_35 (Nat.le_of_ble_eq_true rfl) rfl ?_
        refine zw_push zr_64_36 ?_
        refine zw_5 zr_64_39 rfl ?_
        refine zw_29h zr_64_40 ?_
        intro x36 hx36a hx36b
        refine zw_7 zr_64_41 rfl ?_
        refine zw_46r (s := 10) zr_64_42 rfl rfl rfl rfl ?_
        refine zw_4 zr_64_45 rfl ?_
        refine zw_48 (c := 10) (len := 4) zr_64_47 rfl rfl (by omega) (by omega) ?_
        intro x37 ex37
        have bx37 := ib_10 hI0 (k := (i4).toNat) (by omega)
        rw [← ex37] at bx37
        refine zw_36 zr_64_48 ?_
        refine zw_27h zr_64_49 ?_
        intro x38 hx38a hx38b
        refine zw_13 (L' := [(2, 1), (1, a0), (9, 0), (1, x38), (9, 0), (0, i4), (9, 0)]) zr_64_50 (Nat.le_of_ble_eq_true rfl) rfl ?_
        refine zw_push zr_64_51 ?_
        refine zw_10 (L' := [(2, 1), (1, a0), (9, 0), (1, x38), (9, 0), (0, i4), (0, 0)]) zr_64_52 (Nat.le_of_ble_eq_true rfl) rfl ?_
        have lp54_41 : ∀ (nlp54_41 : Nat) (i39 i40 : Int), (-9223372036854775808) ≤ i39 → i39 ≤ 9223372036854775807 → 0 ≤ i40 → i40 ≤ 50 → (50 - i40).toNat < nlp54_41 → zW E (d) 64 54 [(2, 1), (1, a0), (9, 0), (1, i39), (9, 0), (0, i4), (0, i40)] [] m0 Q := by
          intro nlp54_41
          induction nlp54_41 with
          | zero =>
            intros
            exact absurd (by assumption : _ < 0) (Nat.not_lt_zero _)
          | succ nlp54_41 ihlp54_41 =>
            intro i39 i40 li39 ui39 li40 ui40 hmlp54_41
            refine zw_4 zr_64_54 rfl ?_
            refine zw_7 zr_64_56 rfl ?_
            refine zw_46r (s := 10) zr_64_57 rfl rfl rfl rfl ?_
            refine zw_4 zr_64_60 rfl ?_
            refine zw_48k (c := 10) (len := 4) zr_64_62 rfl rfl (by omega) (by omega) rfl ex37.symm ?_
            refine zw_41_3 zr_64_63 ?_ ?_
            · intro h43
              refine zw_15 (c := 1) (L' := [(2, 1), (1, a0), (9, 0), (1, i39), (9, 0), (0, (i4 + 1)), (0, i40)]) zr_64_93 rfl (by decide) (by omega) rfl ?_
              refine zw_42 zr_64_96 ?_
              exact zw_less (L := [(2, 1), (1, a0), (9, 0), (1, i39), (9, 0), (0, (i4 + 1)), (9, 0)]) ⟨Or.inr rfl, Or.inr rfl, Or.inl rfl, Or.inr rfl, Or.inl rfl, Or.inr rfl, Or.inl rfl, trivial⟩ (ihlp15_5 (i39) ((i4 + 1))  (by omega) (by omega) (by omega) (by omega) (by omega))
            · intro h44
              refine zw_push zr_64_66 ?_
              refine zw_5 zr_64_69 rfl ?_
              refine zw_29h zr_64_70 ?_
              intro x45 hx45a hx45b
              refine zw_7 zr_64_71 rfl ?_
              refine zw_46r (s := 11) zr_64_72 rfl rfl rfl rfl ?_
              refine zw_4 zr_64_75 rfl ?_
              refine zw_push zr_64_77 ?_
              refine zw_18 zr_64_79 (by omega) ?_
              refine zw_4 zr_64_80 rfl ?_
              refine zw_16 zr_64_82 (by omega) ?_
              refine zw_48 (c := 11) (len := 200) zr_64_83 rfl rfl (by omega) (by omega) ?_
              intro x46 ex46
              have bx46 := ib_11 hI0 (k := (((i4 * 50) + i40)).toNat) (by omega)
              rw [← ex46] at bx46
              clear ex46
              refine zw_36 zr_64_84 ?_
              refine zw_27h zr_64_85 ?_
              intro x47 hx47a hx47b
              refine zw_13 (L' := [(2, 1), (1, a0), (9, 0), (1, x47), (9, 0), (0, i4), (0, i40)]) zr_64_86 (Nat.le_of_ble_eq_true rfl) rfl ?_
              refine zw_15 (c := 1) (L' := [(2, 1), (1, a0), (9, 0), (1, x47), (9, 0), (0, i4), (0, (i40 + 1))]) zr_64_87 rfl (by decide) (by omega) rfl ?_
              refine zw_42 zr_64_90 ?_
              exact zw_less (L := [(2, 1), (1, a0), (9, 0), (1, x47), (9, 0), (0, i4), (0, (i40 + 1))]) ⟨Or.inr rfl, Or.inr rfl, Or.inl rfl, Or.inr rfl, Or.inl rfl, Or.inr rfl, Or.inr rfl, trivial⟩ (ihlp54_41 (x47) ((i40 + 1))  (by omega) (by omega) (by omega) (by omega) (by omega))
        exact lp54_41 _ (x38) (0)  (by omega) (by omega) (by omega) (by omega) (Nat.lt_succ_self _)
  exact lp15_5 _ (r2) (0)  (by omega) (by omega) (by omega) (by omega) (Nat.lt_succ_self _)

set_option maxHeartbeats 8000000 in
theorem th_138 {E : zE} {d : Nat} {m0 : zM} (hd : 3 ≤ d) (hI0 : zInv m0) : zC E d 138 [(2, 0)] m0 (fun v m' => ∃ r : Int, v = (1, r) ∧ (-9223372036854775808) ≤ r ∧ r ≤ 9223372036854775807 ∧ m' = m0) := by
  generalize hQ : (fun (v : zV) (m' : zM) => ∃ r : Int, v = (1, r) ∧ (-9223372036854775808) ≤ r ∧ r ≤ 9223372036854775807 ∧ m' = m0) = Q
  show zW E d 138 0 [(2, 0), (9, 0), (9, 0), (9, 0)] [] m0 Q
  refine zw_push zr_138_0 ?_
  refine zw_13 (L' := [(2, 0), (1, 449), (9, 0), (9, 0)]) zr_138_3 (Nat.le_of_ble_eq_true rfl) rfl ?_
  refine zw_push zr_138_4 ?_
  refine zw_9 (L' := [(2, 0), (1, 449), (9, 0), (0, 0)]) zr_138_5 (Nat.le_of_ble_eq_true rfl) rfl ?_
  have lp6_3 : ∀ (nlp6_3 : Nat) (i1 i2 : Int), (-9223372036854775808) ≤ i1 → i1 ≤ 9223372036854775807 → 0 ≤ i2 → i2 ≤ 4 → (4 - i2).toNat < nlp6_3 → zW E (d) 138 6 [(2, 0), (1, i1), (9, 0), (0, i2)] [] m0 Q := by
    intro nlp6_3
    induction nlp6_3 with
    | zero =>
      intros
      exact absurd (by assumption : _ < 0) (Nat.not_lt_zero _)
    | succ nlp6_3 ihlp6_3 =>
      intro i1 i2 li1 ui1 li2 ui2 hmlp6_3
      refine zw_3 zr_138_6 rfl ?_
      refine zw_push zr_138_7 ?_
      refine zw_41_3 zr_138_8 ?_ ?_
      · intro h5
        refine zw_7 zr_138_30 rfl ?_
        refine zw_46r (s := 1) zr_138_31 rfl rfl rfl rfl ?_
        refine zw_5 zr_138_34 rfl ?_
        refine zw_C zr_138_35 (Or.inl rfl) zm_64 rfl rfl ⟨Nat.le_of_ble_eq_true rfl, Nat.le_of_ble_eq_true rfl, Nat.le_of_ble_eq_true rfl, rfl, by decide⟩ (by omega) (th_64 (d := d - 1) (by omega) hI0 (a0 := i1)   (by omega)) ?_
        rintro _ _ ⟨r6, rfl, hr6a, hr6b, rfl⟩
        show zW E (d) 138 38 [(2, 0), (1, i1), (9, 0), (0, i2)] [(1, r6)] m0 Q
        refine zw_13 (L' := [(2, 0), (1, r6), (9, 0), (0, i2)]) zr_138_38 (Nat.le_of_ble_eq_true rfl) rfl ?_
        refine zw_push zr_138_39 ?_
        refine zw_5 zr_138_42 rfl ?_
        refine zw_29h zr_138_43 ?_
        intro x7 hx7a hx7b
        refine zw_7 zr_138_44 rfl ?_
        refine zw_46r (s := 42) zr_138_45 rfl rfl rfl rfl ?_
        obtain ⟨f8, ef8⟩ : ∃ v, m0 42 0 = v := ⟨_, rfl⟩
        have bf8 := hI0.fl (c := 42) (k := 0) rfl
        rw [ef8] at bf8
        refine zw_46l zr_138_48 ef8 rfl rfl rfl ?_
        refine zw_27h zr_138_51 ?_
        intro x9 hx9a hx9b
        refine zw_13 (L' := [(2, 0), (1, x9), (9, 0), (0, i2)]) zr_138_52 (Nat.le_of_ble_eq_true rfl) rfl ?_
        refine zw_push zr_138_53 ?_
        refine zw_5 zr_138_56 rfl ?_
        refine zw_29h zr_138_57 ?_
        intro x10 hx10a hx10b
        refine zw_7 zr_138_58 rfl ?_
        refine zw_46r (s := 42) zr_138_59 rfl rfl rfl rfl ?_
        obtain ⟨f11, ef11⟩ : ∃ v, m0 42 1 = v := ⟨_, rfl⟩
        have bf11 := hI0.fl (c := 42) (k := 1) rfl
        rw [ef11] at bf11
        refine zw_46l zr_138_62 ef11 rfl rfl rfl ?_
        refine zw_27h zr_138_65 ?_
        intro x12 hx12a hx12b
        refine zw_R zr_138_66 (by decide) zm_138 (v := (1, x12)) rfl ?_
        rw [← hQ]; exact ⟨_, rfl, by omega, by omega, rfl⟩
      · intro h13
        refine zw_push zr_138_11 ?_
        refine zw_5 zr_138_14 rfl ?_
        refine zw_29h zr_138_15 ?_
        intro x14 hx14a hx14b
        refine zw_7 zr_138_16 rfl ?_
        refine zw_3 zr_138_17 rfl ?_
        refine zw_C zr_138_18 (Or.inl rfl) zm_137 rfl rfl ⟨Nat.le_of_ble_eq_true rfl, Nat.le_of_ble_eq_true rfl, Nat.le_of_ble_eq_true rfl, rfl, by decide⟩ (by omega) (th_137 (d := d - 1) (by omega) hI0 (a0 := i2)   (by omega)) ?_
        rintro _ _ ⟨r15, rfl, hr15a, hr15b, rfl⟩
        show zW E (d) 138 21 [(2, 0), (1, i1), (9, 0), (0, i2)] [(0, r15), (1, x14)] m0 Q
        refine zw_36 zr_138_21 ?_
        refine zw_27h zr_138_22 ?_
        intro x16 hx16a hx16b
        refine zw_13 (L' := [(2, 0), (1, x16), (9, 0), (0, i2)]) zr_138_23 (Nat.le_of_ble_eq_true rfl) rfl ?_
        refine zw_15 (c := 1) (L' := [(2, 0), (1, x16), (9, 0), (0, (i2 + 1))]) zr_138_24 rfl (by decide) (by omega) rfl ?_
        refine zw_42 zr_138_27 ?_
        exact zw_less (L := [(2, 0), (1, x16), (9, 0), (0, (i2 + 1))]) ⟨Or.inr rfl, Or.inr rfl, Or.inl rfl, Or.inr rfl, trivial⟩ (ihlp6_3 (x16) ((i2 + 1))  (by omega) (by omega) (by omega) (by omega) (by omega))
  exact lp6_3 _ (449) (0)  (by omega) (by omega) (by omega) (by omega) (Nat.lt_succ_self _)

set_option maxHeartbeats 8000000 in
theorem th_211 {E : zE} {d : Nat} {m0 : zM} {a0 : Int} {a1 : Int} {a2 : Int} (hd : 1 ≤ d) (hI0 : zInv m0) (ha0 : (-9223372036854775808) ≤ a0 ∧ a0 ≤ 9223372036854775807) (ha1 : 10 ≤ a1 ∧ a1 ≤ 826) (ha2 : 0 ≤ a2 ∧ a2 ≤ 360) (hp0 : a1 + a2 ≤ 826) : zC E d 211 [(2, 69), (1, a0), (0, a1), (0, a2)] m0 (fun v m' => ∃ r : Int, v = (1, r) ∧ (-9223372036854775808) ≤ r ∧ r ≤ 9223372036854775807 ∧ m' = m0) := by
  generalize hQ : (fun (v : zV) (m' : zM) => ∃ r : Int, v = (1, r) ∧ (-9223372036854775808) ≤ r ∧ r ≤ 9223372036854775807 ∧ m' = m0) = Q
  show zW E d 211 0 [(2, 69), (1, a0), (9, 0), (0, a1), (0, a2), (9, 0), (9, 0), (9, 0)] [] m0 Q
  refine zw_5 zr_211_0 rfl ?_
  refine zw_14 (L' := [(2, 69), (1, a0), (9, 0), (0, a1), (0, a2), (1, a0), (9, 0), (9, 0)]) zr_211_1 (Nat.le_of_ble_eq_true rfl) rfl ?_
  refine zw_push zr_211_3 ?_
  refine zw_10 (L' := [(2, 69), (1, a0), (9, 0), (0, a1), (0, a2), (1, a0), (9, 0), (0, 0)]) zr_211_4 (Nat.le_of_ble_eq_true rfl) rfl ?_
  have lp6_3 : ∀ (nlp6_3 : Nat) (i1 i2 : Int), (-9223372036854775808) ≤ i1 → i1 ≤ 9223372036854775807 → 0 ≤ i2 → i2 ≤ 360 → (360 - i2).toNat < nlp6_3 → zW E (d) 211 6 [(2, 69), (1, a0), (9, 0), (0, a1), (0, a2), (1, i1), (9, 0), (0, i2)] [] m0 Q := by
    intro nlp6_3
    induction nlp6_3 with
    | zero =>
      intros
      exact absurd (by assumption : _ < 0) (Nat.not_lt_zero _)
    | succ nlp6_3 ihlp6_3 =>
      intro i1 i2 li1 ui1 li2 ui2 hmlp6_3
      refine zw_4 zr_211_6 rfl ?_
      refine zw_4 zr_211_8 rfl ?_
      refine zw_41_3 zr_211_10 ?_ ?_
      · intro h5
        refine zw_6 zr_211_38 rfl ?_
        refine zw_R zr_211_40 (by decide) zm_211 (v := (1, i1)) rfl ?_
        rw [← hQ]; exact ⟨_, rfl, by omega, by omega, rfl⟩
      · intro h6
        refine zw_push zr_211_13 ?_
        refine zw_6 zr_211_16 rfl ?_
        refine zw_29h zr_211_18 ?_
        intro x7 hx7a hx7b
        refine zw_7 zr_211_19 rfl ?_
        refine zw_46r (s := 70) zr_211_20 rfl rfl rfl rfl ?_
        refine zw_3 zr_211_23 rfl ?_
        refine zw_4 zr_211_24 rfl ?_
        refine zw_16 zr_211_26 (by omega) ?_
        refine zw_48 (c := 70) (len := 826) zr_211_27 rfl rfl (by omega) (by omega) ?_
        intro x8 ex8
        have bx8 := hI0.ra (c := 70) (len := 826) (k := ((a1 + i2)).toNat) rfl (by omega)
        rw [← ex8] at bx8
        clear ex8
        refine zw_36 zr_211_28 ?_
        refine zw_27h zr_211_29 ?_
        intro x9 hx9a hx9b
        refine zw_14 (L' := [(2, 69), (1, a0), (9, 0), (0, a1), (0, a2), (1, x9), (9, 0), (0, i2)]) zr_211_30 (Nat.le_of_ble_eq_true rfl) rfl ?_
        refine zw_15 (c := 1) (L' := [(2, 69), (1, a0), (9, 0), (0, a1), (0, a2), (1, x9), (9, 0), (0, (i2 + 1))]) zr_211_32 rfl (by decide) (by omega) rfl ?_
        refine zw_42 zr_211_35 ?_
        exact zw_less (L := [(2, 69), (1, a0), (9, 0), (0, a1), (0, a2), (1, x9), (9, 0), (0, (i2 + 1))]) ⟨Or.inr rfl, Or.inr rfl, Or.inl rfl, Or.inr rfl, Or.inr rfl, Or.inr rfl, Or.inl rfl, Or.inr rfl, trivial⟩ (ihlp6_3 (x9) ((i2 + 1))  (by omega) (by omega) (by omega) (by omega) (by omega))
  exact lp6_3 _ (a0) (0)  (by omega) (by omega) (by omega) (by omega) (Nat.lt_succ_self _)

set_option maxHeartbeats 8000000 in
theorem th_212 {E : zE} {d : Nat} {m0 : zM} (hd : 3 ≤ d) (hI0 : zInv m0) : zC E d 212 [(2, 69)] m0 (fun v m' => ∃ r : Int, v = (1, r) ∧ (-9223372036854775808) ≤ r ∧ r ≤ 9223372036854775807 ∧ m' = m0) := by
  generalize hQ : (fun (v : zV) (m' : zM) => ∃ r : Int, v = (1, r) ∧ (-9223372036854775808) ≤ r ∧ r ≤ 9223372036854775807 ∧ m' = m0) = Q
  show zW E d 212 0 [(2, 69), (9, 0), (9, 0), (9, 0)] [] m0 Q
  refine zw_push zr_212_0 ?_
  refine zw_13 (L' := [(2, 69), (1, 449), (9, 0), (9, 0)]) zr_212_3 (Nat.le_of_ble_eq_true rfl) rfl ?_
  refine zw_push zr_212_4 ?_
  refine zw_9 (L' := [(2, 69), (1, 449), (9, 0), (0, 0)]) zr_212_5 (Nat.le_of_ble_eq_true rfl) rfl ?_
  have lp6_3 : ∀ (nlp6_3 : Nat) (i1 i2 : Int), (-9223372036854775808) ≤ i1 → i1 ≤ 9223372036854775807 → 0 ≤ i2 → i2 ≤ 4 → (4 - i2).toNat < nlp6_3 → zW E (d) 212 6 [(2, 69), (1, i1), (9, 0), (0, i2)] [] m0 Q := by
    intro nlp6_3
    induction nlp6_3 with
    | zero =>
      intros
      exact absurd (by assumption : _ < 0) (Nat.not_lt_zero _)
    | succ nlp6_3 ihlp6_3 =>
      intro i1 i2 li1 ui1 li2 ui2 hmlp6_3
      refine zw_3 zr_212_6 rfl ?_
      refine zw_push zr_212_7 ?_
      refine zw_41_3 zr_212_8 ?_ ?_
      · intro h5
        refine zw_push zr_212_30 ?_
        refine zw_9 (L' := [(2, 69), (1, i1), (9, 0), (0, 0)]) zr_212_31 (Nat.le_of_ble_eq_true rfl) rfl ?_
        have lp32_8 : ∀ (nlp32_8 : Nat) (i6 i7 : Int), (-9223372036854775808) ≤ i6 → i6 ≤ 9223372036854775807 → 0 ≤ i7 → i7 ≤ 10 → (10 - i7).toNat < nlp32_8 → zW E (d) 212 32 [(2, 69), (1, i6), (9, 0), (0, i7)] [] m0 Q := by
          intro nlp32_8
          induction nlp32_8 with
          | zero =>
            intros
            exact absurd (by assumption : _ < 0) (Nat.not_lt_zero _)
          | succ nlp32_8 ihlp32_8 =>
            intro i6 i7 li6 ui6 li7 ui7 hmlp32_8
            refine zw_3 zr_212_32 rfl ?_
            refine zw_7 zr_212_33 rfl ?_
            refine zw_C zr_212_34 (Or.inl rfl) zm_141 rfl rfl ⟨Nat.le_of_ble_eq_true rfl, Nat.le_of_ble_eq_true rfl, Nat.le_of_ble_eq_true rfl, rfl, by decide⟩ (by omega) (P := (fun v m' => zW E (d) 212 37 [(2, 69), (1, i6), (9, 0), (0, i7)] (if v.1 = 9 then [(0, i7)] else v :: [(0, i7)]) m' Q)) ?_ (fun _ _ h => h)
            generalize hQ1 : (fun v m' => zW E (d) 212 37 [(2, 69), (1, i6), (9, 0), (0, i7)] (if v.1 = 9 then [(0, i7)] else v :: [(0, i7)]) m' Q) = Q1
            show zW E (d - 1) 141 0 [(2, 69)] [] m0 Q1
            refine zw_7 zr_141_0 rfl ?_
            refine zw_46r (s := 70) zr_141_1 rfl rfl rfl rfl ?_
            refine zw_push zr_141_4 ?_
            obtain ⟨f10, ef10⟩ : ∃ v, m0 70 822 = v := ⟨_, rfl⟩
            have bf10 : 0 ≤ m0 70 822 ∧ m0 70 822 ≤ 10 := ib_70_players hI0 (by omega)
            rw [ef10] at bf10
            refine zw_48k (c := 70) (len := 826) zr_141_7 rfl rfl (by omega) (by omega) (show (822 : Int).toNat = 822 by omega) ef10 ?_
            refine zw_R zr_141_8 (by decide) zm_141 (v := (0, f10)) rfl ?_
            rw [← hQ1]
            show zW E (d) 212 37 [(2, 69), (1, i6), (9, 0), (0, i7)] [(0, f10), (0, i7)] m0 Q
            refine zw_41_3 zr_212_37 ?_ ?_
            · intro h11
              refine zw_7 zr_212_75 rfl ?_
              refine zw_5 zr_212_76 rfl ?_
              refine zw_push zr_212_77 ?_
              refine zw_push zr_212_79 ?_
              refine zw_7 zr_212_81 rfl ?_
              refine zw_C zr_212_82 (Or.inl rfl) zm_142 rfl rfl ⟨Nat.le_of_ble_eq_true rfl, Nat.le_of_ble_eq_true rfl, Nat.le_of_ble_eq_true rfl, rfl, by decide⟩ (by omega) (P := (fun v m' => zW E (d) 212 85 [(2, 69), (1, i6), (9, 0), (0, i7)] (if v.1 = 9 then [(0, 6), (0, 90), (1, i6), (2, 69)] else v :: [(0, 6), (0, 90), (1, i6), (2, 69)]) m' Q)) ?_ (fun _ _ h => h)
              generalize hQ1 : (fun v m' => zW E (d) 212 85 [(2, 69), (1, i6), (9, 0), (0, i7)] (if v.1 = 9 then [(0, 6), (0, 90), (1, i6), (2, 69)] else v :: [(0, 6), (0, 90), (1, i6), (2, 69)]) m' Q) = Q1
              show zW E (d - 1) 142 0 [(2, 69)] [] m0 Q1
              refine zw_7 zr_142_0 rfl ?_
              refine zw_46r (s := 70) zr_142_1 rfl rfl rfl rfl ?_
              refine zw_push zr_142_4 ?_
              obtain ⟨f12, ef12⟩ : ∃ v, m0 70 823 = v := ⟨_, rfl⟩
              have bf12 : 0 ≤ m0 70 823 ∧ m0 70 823 ≤ 60 := ib_70_meetings hI0 (by omega)
              rw [ef12] at bf12
              refine zw_48k (c := 70) (len := 826) zr_142_7 rfl rfl (by omega) (by omega) (show (823 : Int).toNat = 823 by omega) ef12 ?_
              refine zw_R zr_142_8 (by decide) zm_142 (v := (0, f12)) rfl ?_
              rw [← hQ1]
              show zW E (d) 212 85 [(2, 69), (1, i6), (9, 0), (0, i7)] [(0, f12), (0, 6), (0, 90), (1, i6), (2, 69)] m0 Q
              refine zw_18 zr_212_85 (by omega) ?_
              refine zw_C zr_212_86 (Or.inl rfl) zm_211 rfl rfl ⟨Nat.le_of_ble_eq_true rfl, Nat.le_of_ble_eq_true rfl, Nat.le_of_ble_eq_true rfl, rfl, by decide⟩ (by omega) (th_211 (d := d - 1) (by omega) hI0 (a0 := i6) (a1 := 90) (a2 := (6 * f12))   (by omega) (by omega) (by omega) (by omega)) ?_
              rintro _ _ ⟨r13, rfl, hr13a, hr13b, rfl⟩
              show zW E (d) 212 89 [(2, 69), (1, i6), (9, 0), (0, i7)] [(1, r13)] m0 Q
              refine zw_13 (L' := [(2, 69), (1, r13), (9, 0), (0, i7)]) zr_212_89 (Nat.le_of_ble_eq_true rfl) rfl ?_
              refine zw_push zr_212_90 ?_
              refine zw_9 (L' := [(2, 69), (1, r13), (9, 0), (0, 0)]) zr_212_91 (Nat.le_of_ble_eq_true rfl) rfl ?_
              have lp92_16 : ∀ (nlp92_16 : Nat) (i14 i15 : Int), (-9223372036854775808) ≤ i14 → i14 ≤ 9223372036854775807 → 0 ≤ i15 → i15 ≤ 4 → (4 - i15).toNat < nlp92_16 → zW E (d) 212 92 [(2, 69), (1, i14), (9, 0), (0, i15)] [] m0 Q := by
                intro nlp92_16
                induction nlp92_16 with
                | zero =>
                  intros
                  exact absurd (by assumption : _ < 0) (Nat.not_lt_zero _)
                | succ nlp92_16 ihlp92_16 =>
                  intro i14 i15 li14 ui14 li15 ui15 hmlp92_16
                  refine zw_3 zr_212_92 rfl ?_
                  refine zw_push zr_212_93 ?_
                  refine zw_41_3 zr_212_94 ?_ ?_
                  · intro h18
                    refine zw_7 zr_212_134 rfl ?_
                    refine zw_5 zr_212_135 rfl ?_
                    refine zw_push zr_212_136 ?_
                    refine zw_push zr_212_139 ?_
                    refine zw_C zr_212_142 (Or.inl rfl) zm_211 rfl rfl ⟨Nat.le_of_ble_eq_true rfl, Nat.le_of_ble_eq_true rfl, Nat.le_of_ble_eq_true rfl, rfl, by decide⟩ (by omega) (th_211 (d := d - 1) (by omega) hI0 (a0 := i14) (a1 := 658) (a2 := 160)   (by omega) (by omega) (by omega) (by omega)) ?_
                    rintro _ _ ⟨r19, rfl, hr19a, hr19b, rfl⟩
                    show zW E (d) 212 145 [(2, 69), (1, i14), (9, 0), (0, i15)] [(1, r19)] m0 Q
                    refine zw_13 (L' := [(2, 69), (1, r19), (9, 0), (0, i15)]) zr_212_145 (Nat.le_of_ble_eq_true rfl) rfl ?_
                    refine zw_7 zr_212_146 rfl ?_
                    refine zw_7 zr_212_147 rfl ?_
                    refine zw_5 zr_212_148 rfl ?_
                    refine zw_push zr_212_149 ?_
                    refine zw_push zr_212_152 ?_
                    refine zw_C zr_212_153 (Or.inl rfl) zm_211 rfl rfl ⟨Nat.le_of_ble_eq_true rfl, Nat.le_of_ble_eq_true rfl, Nat.le_of_ble_eq_true rfl, rfl, by decide⟩ (by omega) (th_211 (d := d - 1) (by omega) hI0 (a0 := r19) (a1 := 824) (a2 := 2)   (by omega) (by omega) (by omega) (by omega)) ?_
                    rintro _ _ ⟨r20, rfl, hr20a, hr20b, rfl⟩
                    show zW E (d) 212 156 [(2, 69), (1, r19), (9, 0), (0, i15)] [(1, r20), (2, 69)] m0 Q
                    refine zw_push zr_212_156 ?_
                    refine zw_push zr_212_159 ?_
                    refine zw_C zr_212_160 (Or.inl rfl) zm_211 rfl rfl ⟨Nat.le_of_ble_eq_true rfl, Nat.le_of_ble_eq_true rfl, Nat.le_of_ble_eq_true rfl, rfl, by decide⟩ (by omega) (th_211 (d := d - 1) (by omega) hI0 (a0 := r20) (a1 := 818) (a2 := 4)   (by omega) (by omega) (by omega) (by omega)) ?_
                    rintro _ _ ⟨r21, rfl, hr21a, hr21b, rfl⟩
                    show zW E (d) 212 163 [(2, 69), (1, r19), (9, 0), (0, i15)] [(1, r21)] m0 Q
                    refine zw_13 (L' := [(2, 69), (1, r21), (9, 0), (0, i15)]) zr_212_163 (Nat.le_of_ble_eq_true rfl) rfl ?_
                    refine zw_push zr_212_164 ?_
                    refine zw_push zr_212_167 ?_
                    refine zw_5 zr_212_170 rfl ?_
                    refine zw_29h zr_212_171 ?_
                    intro x22 hx22a hx22b
                    refine zw_7 zr_212_172 rfl ?_
                    obtain ⟨f23, ef23⟩ : ∃ v, m0 69 3 = v := ⟨_, rfl⟩
                    have bf23 := hI0.fl (c := 69) (k := 3) rfl
                    rw [ef23] at bf23
                    refine zw_46l zr_212_173 ef23 rfl rfl rfl ?_
                    refine zw_27h zr_212_176 ?_
                    intro x24 hx24a hx24b
                    refine zw_29h zr_212_177 ?_
                    intro x25 hx25a hx25b
                    refine zw_7 zr_212_178 rfl ?_
                    obtain ⟨f26, ef26⟩ : ∃ v, m0 69 4 = v := ⟨_, rfl⟩
                    have bf26 := hI0.fl (c := 69) (k := 4) rfl
                    rw [ef26] at bf26
                    refine zw_46l zr_212_179 ef26 rfl rfl rfl ?_
                    refine zw_27h zr_212_182 ?_
                    intro x27 hx27a hx27b
                    refine zw_R zr_212_183 (by decide) zm_212 (v := (1, x27)) rfl ?_
                    rw [← hQ]; exact ⟨_, rfl, by omega, by omega, rfl⟩
                  · intro h28
                    refine zw_7 zr_212_97 rfl ?_
                    refine zw_5 zr_212_98 rfl ?_
                    refine zw_push zr_212_99 ?_
                    refine zw_push zr_212_102 ?_
                    refine zw_3 zr_212_104 rfl ?_
                    refine zw_18 zr_212_105 (by omega) ?_
                    refine zw_16 zr_212_106 (by omega) ?_
                    refine zw_push zr_212_107 ?_
                    refine zw_7 zr_212_108 rfl ?_
                    refine zw_46r (s := 70) zr_212_109 rfl rfl rfl rfl ?_
                    refine zw_push zr_212_112 ?_
                    refine zw_push zr_212_115 ?_
                    refine zw_3 zr_212_117 rfl ?_
                    refine zw_18 zr_212_118 (by omega) ?_
                    refine zw_16 zr_212_119 (by omega) ?_
                    refine zw_push zr_212_120 ?_
                    refine zw_16 zr_212_121 (by omega) ?_
                    refine zw_48 (c := 70) (len := 826) zr_212_122 rfl rfl (by omega) (by omega) ?_
                    intro x29 ex29
                    have bx29 := ib_70_s1 hI0 (k := (((450 + (52 * i15)) + 1)).toNat) (by omega)
                    rw [← ex29] at bx29
                    clear ex29
                    refine zw_16 zr_212_123 (by omega) ?_
                    refine zw_C zr_212_124 (Or.inl rfl) zm_211 rfl rfl ⟨Nat.le_of_ble_eq_true rfl, Nat.le_of_ble_eq_true rfl, Nat.le_of_ble_eq_true rfl, rfl, by decide⟩ (by omega) (th_211 (d := d - 1) (by omega) hI0 (a0 := i14) (a1 := (450 + (52 * i15))) (a2 := (2 + x29))   (by omega) (by omega) (by omega) (by omega)) ?_
                    rintro _ _ ⟨r30, rfl, hr30a, hr30b, rfl⟩
                    show zW E (d) 212 127 [(2, 69), (1, i14), (9, 0), (0, i15)] [(1, r30)] m0 Q
                    refine zw_13 (L' := [(2, 69), (1, r30), (9, 0), (0, i15)]) zr_212_127 (Nat.le_of_ble_eq_true rfl) rfl ?_
                    refine zw_15 (c := 1) (L' := [(2, 69), (1, r30), (9, 0), (0, (i15 + 1))]) zr_212_128 rfl (by decide) (by omega) rfl ?_
                    refine zw_42 zr_212_131 ?_
                    exact zw_less (L := [(2, 69), (1, r30), (9, 0), (0, (i15 + 1))]) ⟨Or.inr rfl, Or.inr rfl, Or.inl rfl, Or.inr rfl, trivial⟩ (ihlp92_16 (r30) ((i15 + 1))  (by omega) (by omega) (by omega) (by omega) (by omega))
              exact lp92_16 _ (r13) (0)  (by omega) (by omega) (by omega) (by omega) (Nat.lt_succ_self _)
            · intro h31
              refine zw_7 zr_212_40 rfl ?_
              refine zw_push zr_212_41 ?_
              refine zw_5 zr_212_44 rfl ?_
              refine zw_29h zr_212_45 ?_
              intro x32 hx32a hx32b
              refine zw_7 zr_212_46 rfl ?_
              refine zw_46r (s := 70) zr_212_47 rfl rfl rfl rfl ?_
              refine zw_push zr_212_50 ?_
              refine zw_3 zr_212_51 rfl ?_
              refine zw_16 zr_212_52 (by omega) ?_
              refine zw_48 (c := 70) (len := 826) zr_212_53 rfl rfl (by omega) (by omega) ?_
              intro x33 ex33
              have bx33 := ib_70_born hI0 (k := ((0 + i7)).toNat) (by omega)
              rw [← ex33] at bx33
              clear ex33
              refine zw_36 zr_212_54 ?_
              refine zw_27h zr_212_55 ?_
              intro x34 hx34a hx34b
              refine zw_push zr_212_56 ?_
              refine zw_push zr_212_58 ?_
              refine zw_3 zr_212_60 rfl ?_
              refine zw_18 zr_212_61 (by omega) ?_
              refine zw_16 zr_212_62 (by omega) ?_
              refine zw_push zr_212_63 ?_
              refine zw_C zr_212_65 (Or.inl rfl) zm_211 rfl rfl ⟨Nat.le_of_ble_eq_true rfl, Nat.le_of_ble_eq_true rfl, Nat.le_of_ble_eq_true rfl, rfl, by decide⟩ (by omega) (th_211 (d := d - 1) (by omega) hI0 (a0 := x34) (a1 := (10 + (8 * i7))) (a2 := 8)   (by omega) (by omega) (by omega) (by omega)) ?_
              rintro _ _ ⟨r35, rfl, hr35a, hr35b, rfl⟩
              show zW E (d) 212 68 [(2, 69), (1, i6), (9, 0), (0, i7)] [(1, r35)] m0 Q
              refine zw_13 (L' := [(2, 69), (1, r35), (9, 0), (0, i7)]) zr_212_68 (Nat.le_of_ble_eq_true rfl) rfl ?_
              refine zw_15 (c := 1) (L' := [(2, 69), (1, r35), (9, 0), (0, (i7 + 1))]) zr_212_69 rfl (by decide) (by omega) rfl ?_
              refine zw_42 zr_212_72 ?_
              exact zw_less (L := [(2, 69), (1, r35), (9, 0), (0, (i7 + 1))]) ⟨Or.inr rfl, Or.inr rfl, Or.inl rfl, Or.inr rfl, trivial⟩ (ihlp32_8 (r35) ((i7 + 1))  (by omega) (by omega) (by omega) (by omega) (by omega))
        exact lp32_8 _ (i1) (0)  (by omega) (by omega) (by omega) (by omega) (Nat.lt_succ_self _)
      · intro h36
        refine zw_push zr_212_11 ?_
        refine zw_5 zr_212_14 rfl ?_
        refine zw_29h zr_212_15 ?_
        intro x37 hx37a hx37b
        refine zw_7 zr_212_16 rfl ?_
        refine zw_3 zr_212_17 rfl ?_
        refine zw_C zr_212_18 (Or.inl rfl) zm_210 rfl rfl ⟨Nat.le_of_ble_eq_true rfl, Nat.le_of_ble_eq_true rfl, Nat.le_of_ble_eq_true rfl, rfl, by decide⟩ (by omega) (th_210 (d := d - 1) (by omega) hI0 (a0 := i2)   (by omega)) ?_
        rintro _ _ ⟨r38, rfl, hr38a, hr38b, rfl⟩
        show zW E (d) 212 21 [(2, 69), (1, i1), (9, 0), (0, i2)] [(0, r38), (1, x37)] m0 Q
        refine zw_36 zr_212_21 ?_
        refine zw_27h zr_212_22 ?_
        intro x39 hx39a hx39b
        refine zw_13 (L' := [(2, 69), (1, x39), (9, 0), (0, i2)]) zr_212_23 (Nat.le_of_ble_eq_true rfl) rfl ?_
        refine zw_15 (c := 1) (L' := [(2, 69), (1, x39), (9, 0), (0, (i2 + 1))]) zr_212_24 rfl (by decide) (by omega) rfl ?_
        refine zw_42 zr_212_27 ?_
        exact zw_less (L := [(2, 69), (1, x39), (9, 0), (0, (i2 + 1))]) ⟨Or.inr rfl, Or.inr rfl, Or.inl rfl, Or.inr rfl, trivial⟩ (ihlp6_3 (x39) ((i2 + 1))  (by omega) (by omega) (by omega) (by omega) (by omega))
  exact lp6_3 _ (449) (0)  (by omega) (by omega) (by omega) (by omega) (Nat.lt_succ_self _)
