abbrev W_193 : List (Nat × Nat) := [(69, 5), (69, 6), (69, 7), (69, 9), (69, 11), (69, 13), (69, 17), (69, 18), (69, 23), (73, 1000), (74, 1000), (75, 1000), (76, 1000), (77, 1000), (78, 1000), (82, 1000)]
set_option maxHeartbeats 8000000 in
theorem th_193 {E : zE} {d : Nat} {m0 : zM} {a0 : Int} {a1 : Int} (hd : 7 ≤ d) (hI0 : zInv m0) (ha0 : 0 ≤ a0 ∧ a0 ≤ 3) (ha1 : 0 ≤ a1 ∧ a1 ≤ 9) : zC E d 193 [(2, 69), (0, a0), (0, a1)] m0 (fun v m' => v = (9, 0) ∧ zInv m' ∧ zFr W_193 m0 m') := by
  have hF0 : zFr W_193 m0 m0 := zFr.rfl
  generalize hQ : (fun (v : zV) (m' : zM) => v = (9, 0) ∧ zInv m' ∧ zFr W_193 m0 m') = Q
  show zW E d 193 0 [(2, 69), (0, a0), (0, a1), (9, 0)] [] m0 Q
  refine zw_7 zr_193_0 rfl ?_
  refine zw_push zr_193_1 ?_
  refine zw_47 (c := 69) zr_193_2 rfl ⟨rfl, by decide, rfl⟩ ?_
  intro m1 em1
  have hIm1 : zInv m1 := by rw [em1]; exact hI0.bd (r := 69) (k := 23) (lo := 0) (hi := 100) rfl (by omega) (by decide) (by decide) (by decide)
  have hFm1 : zFr W_193 m0 m1 := by rw [em1]; exact hF0.up rfl
  have km1_69_23 : m1 69 23 = 0 := by rw [em1]; exact zUp_eq _ _ _ _
  clear em1
  refine zw_push zr_193_5 ?_
  refine zw_9 (L' := [(2, 69), (0, a0), (0, a1), (0, 0)]) zr_193_6 (Nat.le_of_ble_eq_true rfl) rfl ?_
  have lp7_5 : ∀ (nlp7_5 : Nat) (i2 p4 : Int) (m3 : zM), zInv m3 → zFr W_193 m0 m3 → m3 69 23 = p4 → 0 ≤ i2 → i2 ≤ 100 → 0 ≤ p4 → p4 ≤ 100 → (p4 ≤ i2) → (100 - i2).toNat < nlp7_5 → zW E (d) 193 7 [(2, 69), (0, a0), (0, a1), (0, i2)] [] m3 Q := by
    intro nlp7_5
    induction nlp7_5 with
    | zero =>
      intros
      exact absurd (by assumption : _ < 0) (Nat.not_lt_zero _)
    | succ nlp7_5 ihlp7_5 =>
      intro i2 p4 m3 hIm3 hFm3 km3_69_23 li2 ui2 lp4 up4 hv0lp7_5 hmlp7_5
      refine zw_3 zr_193_7 rfl ?_
      refine zw_push zr_193_8 ?_
      refine zw_41_3 zr_193_10 ?_ ?_
      · intro h7
        refine zw_R zr_193_59 (by decide) zm_193 (v := (9, 0)) rfl ?_
        rw [← hQ]; exact ⟨rfl, hIm3, hFm3⟩
      · intro h8
        refine zw_7 zr_193_13 rfl ?_
        refine zw_3 zr_193_14 rfl ?_
        refine zw_3 zr_193_15 rfl ?_
        refine zw_C zr_193_16 (Or.inl rfl) zm_172 rfl rfl ⟨Nat.le_of_ble_eq_true rfl, Nat.le_of_ble_eq_true rfl, Nat.le_of_ble_eq_true rfl, rfl, by decide⟩ (by omega) (th_172 (d := d - 1) (by omega) hIm3 (a0 := a1) (a1 := i2)   (F70 := m3 70)  rfl (by omega) (by omega) ) ?_
        rintro _ _ ⟨r9, rfl, hr9a, hr9b, rfl, po0_r9⟩
        show zW E (d) 193 19 [(2, 69), (0, a0), (0, a1), (0, i2)] [(0, r9)] m3 Q
        refine zw_40_1 zr_193_19 ?_ ?_
        · intro h10
          refine zw_15 (c := 1) (L' := [(2, 69), (0, a0), (0, a1), (0, (i2 + 1))]) zr_193_53 rfl (by decide) (by omega) rfl ?_
          refine zw_42 zr_193_56 ?_
          exact zw_less (L := [(2, 69), (0, a0), (0, a1), (0, (i2 + 1))]) ⟨Or.inr rfl, Or.inr rfl, Or.inr rfl, Or.inr rfl, trivial⟩ (ihlp7_5 ((i2 + 1)) (p4) m3 hIm3 hFm3  km3_69_23 (by omega) (by omega) (by omega) (by omega) (by omega) (by omega))
        · intro h11
          refine zw_7 zr_193_22 rfl ?_
          refine zw_3 zr_193_23 rfl ?_
          refine zw_3 zr_193_24 rfl ?_
          refine zw_C zr_193_25 (Or.inl rfl) zm_167 rfl rfl ⟨Nat.le_of_ble_eq_true rfl, Nat.le_of_ble_eq_true rfl, Nat.le_of_ble_eq_true rfl, rfl, by decide⟩ (by omega) (th_167 (d := d - 1) (by omega) hIm3 (a0 := a0) (a1 := i2)      (by omega) (by omega) ) ?_
          rintro _ m12 ⟨rfl, hIm12, gm12⟩
          have hFm12 : zFr W_193 m0 m12 := hFm3.trans gm12 rfl
          have km12_69_23 : m12 69 23 = p4 := (gm12 69 23 rfl).trans km3_69_23
          show zW E (d) 193 28 [(2, 69), (0, a0), (0, a1), (0, i2)] [] m12 Q
          refine zw_7 zr_193_28 rfl ?_
          refine zw_46r (s := 82) zr_193_29 rfl rfl rfl rfl ?_
          refine zw_7 zr_193_32 rfl ?_
          refine zw_46i zr_193_33 km12_69_23 rfl rfl rfl ?_
          refine zw_7 zr_193_36 rfl ?_
          refine zw_46r (s := 76) zr_193_37 rfl rfl rfl rfl ?_
          refine zw_3 zr_193_40 rfl ?_
          refine zw_48 (c := 76) (len := 10) zr_193_41 rfl rfl (by omega) (by omega) ?_
          intro x13 ex13
          have bx13 := hIm12.ra (c := 76) (len := 10) (k := (a1).toNat) rfl (by omega)
          rw [← ex13] at bx13
          clear ex13
          refine zw_49 (c := 82) (len := 100) zr_193_42 rfl rfl (by omega) (by omega) ?_
          intro m14 em14
          have hIm14 : zInv m14 := by rw [em14]; exact hIm12.any (by omega) rfl (by decide) (by decide)
          have hFm14 : zFr W_193 m0 m14 := by rw [em14]; exact hFm12.any rfl
          have km14_69_23 : m14 69 23 = p4 := by rw [em14, zUp_ne (by omega)]; exact km12_69_23
          clear em14
          refine zw_7 zr_193_43 rfl ?_
          refine zw_43 zr_193_44 rfl ?_
          refine zw_46i zr_193_45 km14_69_23 rfl rfl rfl ?_
          refine zw_push zr_193_48 ?_
          refine zw_16 zr_193_49 (by omega) ?_
          refine zw_47 (c := 69) zr_193_50 rfl ⟨rfl, by decide, rfl⟩ ?_
          intro m15 em15
          have hIm15 : zInv m15 := by rw [em15]; exact hIm14.bd (r := 69) (k := 23) (lo := 0) (hi := 100) rfl (by omega) (by decide) (by decide) (by decide)
          have hFm15 : zFr W_193 m0 m15 := by rw [em15]; exact hFm14.up rfl
          have km15_69_23 : m15 69 23 = (p4 + 1) := by rw [em15]; exact zUp_eq _ _ _ _
          clear em15
          refine zw_15 (c := 1) (L' := [(2, 69), (0, a0), (0, a1), (0, (i2 + 1))]) zr_193_53 rfl (by decide) (by omega) rfl ?_
          refine zw_42 zr_193_56 ?_
          exact zw_less (L := [(2, 69), (0, a0), (0, a1), (0, (i2 + 1))]) ⟨Or.inr rfl, Or.inr rfl, Or.inr rfl, Or.inr rfl, trivial⟩ (ihlp7_5 ((i2 + 1)) ((p4 + 1)) m15 hIm15 hFm15  km15_69_23 (by omega) (by omega) (by omega) (by omega) (by omega) (by omega))
  exact lp7_5 _ (0) (0) m1 hIm1 hFm1  km1_69_23 (by omega) (by omega) (by omega) (by omega) (by omega) (Nat.lt_succ_self _)

abbrev W_194 : List (Nat × Nat) := [(69, 5), (69, 6), (69, 7), (69, 9), (69, 11), (69, 13), (69, 17), (69, 18), (69, 23), (69, 24), (73, 1000), (74, 1000), (75, 1000), (76, 1000), (77, 1000), (78, 1000), (82, 1000)]
set_option maxHeartbeats 8000000 in
theorem th_194 {E : zE} {d : Nat} {m0 : zM} {a0 : Int} {a1 : Int} {a2 : Int} (hd : 8 ≤ d) (hI0 : zInv m0) (ha0 : 0 ≤ a0 ∧ a0 ≤ 3) (ha1 : 0 ≤ a1 ∧ a1 ≤ 9) (ha2 : 1 ≤ a2 ∧ a2 ≤ 9) : zC E d 194 [(2, 69), (0, a0), (0, a1), (0, a2)] m0 (fun v m' => ∃ r : Int, v = (0, r) ∧ 0 ≤ r ∧ r ≤ 1 ∧ zInv m' ∧ zFr W_194 m0 m') := by
  have hF0 : zFr W_194 m0 m0 := zFr.rfl
  generalize hQ : (fun (v : zV) (m' : zM) => ∃ r : Int, v = (0, r) ∧ 0 ≤ r ∧ r ≤ 1 ∧ zInv m' ∧ zFr W_194 m0 m') = Q
  show zW E d 194 0 [(2, 69), (0, a0), (0, a1), (0, a2), (9, 0), (9, 0), (9, 0)] [] m0 Q
  refine zw_7 zr_194_0 rfl ?_
  refine zw_3 zr_194_1 rfl ?_
  refine zw_3 zr_194_2 rfl ?_
  refine zw_C zr_194_3 (Or.inl rfl) zm_193 rfl rfl ⟨Nat.le_of_ble_eq_true rfl, Nat.le_of_ble_eq_true rfl, Nat.le_of_ble_eq_true rfl, rfl, by decide⟩ (by omega) (th_193 (d := d - 1) (by omega) hI0 (a0 := a0) (a1 := a1)      (by omega) (by omega) ) ?_
  rintro _ m1 ⟨rfl, hIm1, gm1⟩
  have hFm1 : zFr W_194 m0 m1 := hF0.trans gm1 rfl
  show zW E (d) 194 6 [(2, 69), (0, a0), (0, a1), (0, a2), (9, 0), (9, 0), (9, 0)] [] m1 Q
  refine zw_push zr_194_6 ?_
  refine zw_10 (L' := [(2, 69), (0, a0), (0, a1), (0, a2), (0, 0), (9, 0), (9, 0)]) zr_194_7 (Nat.le_of_ble_eq_true rfl) rfl ?_
  have lp9_4 : ∀ (nlp9_4 : Nat) (i2 : Int) (m3 : zM), zInv m3 → zFr W_194 m0 m3 → 0 ≤ i2 → i2 ≤ 100 → (100 - i2).toNat < nlp9_4 → zW E (d) 194 9 [(2, 69), (0, a0), (0, a1), (0, a2), (0, i2), (9, 0), (9, 0)] [] m3 Q := by
    intro nlp9_4
    induction nlp9_4 with
    | zero =>
      intros
      exact absurd (by assumption : _ < 0) (Nat.not_lt_zero _)
    | succ nlp9_4 ihlp9_4 =>
      intro i2 m3 hIm3 hFm3 li2 ui2 hmlp9_4
      refine zw_4 zr_194_9 rfl ?_
      refine zw_3 zr_194_11 rfl ?_
      refine zw_16 zr_194_12 (by omega) ?_
      refine zw_7 zr_194_13 rfl ?_
      obtain ⟨f6, ef6⟩ : ∃ v, m3 69 23 = v := ⟨_, rfl⟩
      have bf6 := ib_69_23 hIm3
      rw [ef6] at bf6
      refine zw_46i zr_194_14 ef6 rfl rfl rfl ?_
      refine zw_41_2 zr_194_17 ?_ ?_
      · intro h7
        refine zw_7 zr_194_107 rfl ?_
        refine zw_46i zr_194_108 ef6 rfl rfl rfl ?_
        refine zw_3 zr_194_111 rfl ?_
        refine zw_41_0 zr_194_112 ?_ ?_
        · intro h8
          refine zw_push zr_194_119 ?_
          refine zw_R zr_194_120 (by decide) zm_194 (v := (0, 0)) (zRetB (by omega)) ?_
          rw [← hQ]; exact ⟨_, rfl, by omega, by omega, hIm3, hFm3⟩
        · intro h9
          refine zw_push zr_194_115 ?_
          refine zw_42 zr_194_116 ?_
          refine zw_R zr_194_120 (by decide) zm_194 (v := (0, 1)) (zRetB (by omega)) ?_
          rw [← hQ]; exact ⟨_, rfl, by omega, by omega, hIm3, hFm3⟩
      · intro h10
        refine zw_7 zr_194_20 rfl ?_
        refine zw_46r (s := 82) zr_194_21 rfl rfl rfl rfl ?_
        refine zw_4 zr_194_24 rfl ?_
        refine zw_48 (c := 82) (len := 100) zr_194_26 rfl rfl (by omega) (by omega) ?_
        intro x11 ex11
        have bx11 := hIm3.ra (c := 82) (len := 100) (k := (i2).toNat) rfl (by omega)
        rw [← ex11] at bx11
        clear ex11
        refine zw_10 (L' := [(2, 69), (0, a0), (0, a1), (0, a2), (0, i2), (0, x11), (9, 0)]) zr_194_27 (Nat.le_of_ble_eq_true rfl) rfl ?_
        refine zw_4 zr_194_29 rfl ?_
        refine zw_10 (L' := [(2, 69), (0, a0), (0, a1), (0, a2), (0, i2), (0, x11), (0, i2)]) zr_194_31 (Nat.le_of_ble_eq_true rfl) rfl ?_
        have lp33_15 : ∀ (nlp33_15 : Nat) (i12 i13 : Int) (m14 : zM), zInv m14 → zFr W_194 m0 m14 → m14 69 23 = f6 → (-2147483648) ≤ i12 → i12 ≤ 2147483647 → 0 ≤ i13 → i13 ≤ 100 → (100 - i13).toNat < nlp33_15 → zW E (d) 194 33 [(2, 69), (0, a0), (0, a1), (0, a2), (0, i2), (0, i12), (0, i13)] [] m14 Q := by
          intro nlp33_15
          induction nlp33_15 with
          | zero =>
            intros
            exact absurd (by assumption : _ < 0) (Nat.not_lt_zero _)
          | succ nlp33_15 ihlp33_15 =>
            intro i12 i13 m14 hIm14 hFm14 km14_69_23 li12 ui12 li13 ui13 hmlp33_15
            refine zw_4 zr_194_33 rfl ?_
            refine zw_4 zr_194_35 rfl ?_
            refine zw_3 zr_194_37 rfl ?_
            refine zw_16 zr_194_38 (by omega) ?_
            refine zw_41_3 zr_194_39 ?_ ?_
            · intro h17
              refine zw_7 zr_194_74 rfl ?_
              refine zw_4 zr_194_75 rfl ?_
              refine zw_40_1 zr_194_77 ?_ ?_
              · intro h18
                refine zw_4 zr_194_89 rfl ?_
                refine zw_42 zr_194_91 ?_
                refine zw_47 (c := 69) zr_194_98 rfl ⟨rfl, by decide, rfl⟩ ?_
                intro m19 em19
                have hIm19 : zInv m19 := by rw [em19]; exact hIm14.any (by omega) rfl (by decide) (by decide)
                have hFm19 : zFr W_194 m0 m19 := by rw [em19]; exact hFm14.up rfl
                have km19_69_23 : m19 69 23 = f6 := by rw [em19, zUp_ne (by omega)]; exact km14_69_23
                have km19_69_24 : m19 69 24 = i12 := by rw [em19]; exact zUp_eq _ _ _ _
                clear em19
                refine zw_15 (c := 1) (L' := [(2, 69), (0, a0), (0, a1), (0, a2), (0, (i2 + 1)), (0, i12), (0, i13)]) zr_194_101 rfl (by decide) (by omega) rfl ?_
                refine zw_42 zr_194_104 ?_
                exact zw_less (L := [(2, 69), (0, a0), (0, a1), (0, a2), (0, (i2 + 1)), (9, 0), (9, 0)]) ⟨Or.inr rfl, Or.inr rfl, Or.inr rfl, Or.inr rfl, Or.inr rfl, Or.inl rfl, Or.inl rfl, trivial⟩ (ihlp9_4 ((i2 + 1)) m19 hIm19 hFm19   (by omega) (by omega)  (by omega))
              · intro h20
                refine zw_4 zr_194_80 rfl ?_
                refine zw_7 zr_194_82 rfl ?_
                obtain ⟨f21, ef21⟩ : ∃ v, m14 69 24 = v := ⟨_, rfl⟩
                have bf21 := hIm14.fi (c := 69) (k := 24) rfl
                rw [ef21] at bf21
                refine zw_46i zr_194_83 ef21 rfl rfl rfl ?_
                refine zw_41_5 zr_194_86 ?_ ?_
                · intro h22
                  refine zw_7 zr_194_94 rfl ?_
                  refine zw_46i zr_194_95 ef21 rfl rfl rfl ?_
                  refine zw_47 (c := 69) zr_194_98 rfl ⟨rfl, by decide, rfl⟩ ?_
                  intro m23 em23
                  have hIm23 : zInv m23 := by rw [em23]; exact hIm14.any (by omega) rfl (by decide) (by decide)
                  have hFm23 : zFr W_194 m0 m23 := by rw [em23]; exact hFm14.up rfl
                  have km23_69_23 : m23 69 23 = f6 := by rw [em23, zUp_ne (by omega)]; exact km14_69_23
                  have km23_69_24 : m23 69 24 = f21 := by rw [em23]; exact zUp_eq _ _ _ _
                  clear em23
                  refine zw_15 (c := 1) (L' := [(2, 69), (0, a0), (0, a1), (0, a2), (0, (i2 + 1)), (0, i12), (0, i13)]) zr_194_101 rfl (by decide) (by omega) rfl ?_
                  refine zw_42 zr_194_104 ?_
                  exact zw_less (L := [(2, 69), (0, a0), (0, a1), (0, a2), (0, (i2 + 1)), (9, 0), (9, 0)]) ⟨Or.inr rfl, Or.inr rfl, Or.inr rfl, Or.inr rfl, Or.inr rfl, Or.inl rfl, Or.inl rfl, trivial⟩ (ihlp9_4 ((i2 + 1)) m23 hIm23 hFm23   (by omega) (by omega)  (by omega))
                · intro h24
                  refine zw_4 zr_194_89 rfl ?_
                  refine zw_42 zr_194_91 ?_
                  refine zw_47 (c := 69) zr_194_98 rfl ⟨rfl, by decide, rfl⟩ ?_
                  intro m25 em25
                  have hIm25 : zInv m25 := by rw [em25]; exact hIm14.any (by omega) rfl (by decide) (by decide)
                  have hFm25 : zFr W_194 m0 m25 := by rw [em25]; exact hFm14.up rfl
                  have km25_69_23 : m25 69 23 = f6 := by rw [em25, zUp_ne (by omega)]; exact km14_69_23
                  have km25_69_24 : m25 69 24 = i12 := by rw [em25]; exact zUp_eq _ _ _ _
                  clear em25
                  refine zw_15 (c := 1) (L' := [(2, 69), (0, a0), (0, a1), (0, a2), (0, (i2 + 1)), (0, i12), (0, i13)]) zr_194_101 rfl (by decide) (by omega) rfl ?_
                  refine zw_42 zr_194_104 ?_
                  exact zw_less (L := [(2, 69), (0, a0), (0, a1), (0, a2), (0, (i2 + 1)), (9, 0), (9, 0)]) ⟨Or.inr rfl, Or.inr rfl, Or.inr rfl, Or.inr rfl, Or.inr rfl, Or.inl rfl, Or.inl rfl, trivial⟩ (ihlp9_4 ((i2 + 1)) m25 hIm25 hFm25   (by omega) (by omega)  (by omega))
            · intro h26
              refine zw_7 zr_194_42 rfl ?_
              refine zw_46r (s := 82) zr_194_43 rfl rfl rfl rfl ?_
              refine zw_4 zr_194_46 rfl ?_
              refine zw_48 (c := 82) (len := 100) zr_194_48 rfl rfl (by omega) (by omega) ?_
              intro x27 ex27
              have bx27 := hIm14.ra (c := 82) (len := 100) (k := (i13).toNat) rfl (by omega)
              rw [← ex27] at bx27
              refine zw_4 zr_194_49 rfl ?_
              refine zw_41_3 zr_194_51 ?_ ?_
              · intro h28
                refine zw_4 zr_194_64 rfl ?_
                refine zw_10 (L' := [(2, 69), (0, a0), (0, a1), (0, a2), (0, i2), (0, i12), (0, i13)]) zr_194_66 (Nat.le_of_ble_eq_true rfl) rfl ?_
                refine zw_15 (c := 1) (L' := [(2, 69), (0, a0), (0, a1), (0, a2), (0, i2), (0, i12), (0, (i13 + 1))]) zr_194_68 rfl (by decide) (by omega) rfl ?_
                refine zw_42 zr_194_71 ?_
                exact zw_less (L := [(2, 69), (0, a0), (0, a1), (0, a2), (0, i2), (0, i12), (0, (i13 + 1))]) ⟨Or.inr rfl, Or.inr rfl, Or.inr rfl, Or.inr rfl, Or.inr rfl, Or.inr rfl, Or.inr rfl, trivial⟩ (ihlp33_15 (i12) ((i13 + 1)) m14 hIm14 hFm14  km14_69_23 (by omega) (by omega) (by omega) (by omega)  (by omega))
              · intro h29
                refine zw_7 zr_194_54 rfl ?_
                refine zw_46r (s := 82) zr_194_55 rfl rfl rfl rfl ?_
                refine zw_4 zr_194_58 rfl ?_
                refine zw_48k (c := 82) (len := 100) zr_194_60 rfl rfl (by omega) (by omega) rfl ex27.symm ?_
                refine zw_42 zr_194_61 ?_
                refine zw_10 (L' := [(2, 69), (0, a0), (0, a1), (0, a2), (0, i2), (0, x27), (0, i13)]) zr_194_66 (Nat.le_of_ble_eq_true rfl) rfl ?_
                refine zw_15 (c := 1) (L' := [(2, 69), (0, a0), (0, a1), (0, a2), (0, i2), (0, x27), (0, (i13 + 1))]) zr_194_68 rfl (by decide) (by omega) rfl ?_
                refine zw_42 zr_194_71 ?_
                exact zw_less (L := [(2, 69), (0, a0), (0, a1), (0, a2), (0, i2), (0, x27), (0, (i13 + 1))]) ⟨Or.inr rfl, Or.inr rfl, Or.inr rfl, Or.inr rfl, Or.inr rfl, Or.inr rfl, Or.inr rfl, trivial⟩ (ihlp33_15 (x27) ((i13 + 1)) m14 hIm14 hFm14  km14_69_23 (by omega) (by omega) (by omega) (by omega)  (by omega))
        exact lp33_15 _ (x11) (i2) m3 hIm3 hFm3  ef6 (by omega) (by omega) (by omega) (by omega)  (Nat.lt_succ_self _)
  exact lp9_4 _ (0) m1 hIm1 hFm1   (by omega) (by omega)  (Nat.lt_succ_self _)

abbrev W_195 : List (Nat × Nat) := [(69, 3), (69, 4), (69, 5), (69, 6), (69, 7), (69, 9), (69, 11), (69, 13), (69, 17), (69, 18), (73, 1000), (74, 1000), (75, 1000), (76, 1000), (77, 1000), (78, 1000)]
set_option maxHeartbeats 8000000 in
theorem th_195 {E : zE} {d : Nat} {m0 : zM} {a0 : Int} {F70 : Nat → Int} (hd : 7 ≤ d) (hI0 : zInv m0) (hG70 : m0 70 = F70) (ha0 : 0 ≤ a0 ∧ a0 ≤ 3) : zC E d 195 [(2, 69), (0, a0)] m0 (fun v m' => ∃ r : Int, v = (0, r) ∧ (-1) ≤ r ∧ r ≤ 9 ∧ zInv m' ∧ zFr W_195 m0 m') := by
  have hF0 : zFr W_195 m0 m0 := zFr.rfl
  generalize hQ : (fun (v : zV) (m' : zM) => ∃ r : Int, v = (0, r) ∧ (-1) ≤ r ∧ r ≤ 9 ∧ zInv m' ∧ zFr W_195 m0 m') = Q
  show zW E d 195 0 [(2, 69), (0, a0), (9, 0), (9, 0), (9, 0), (9, 0), (9, 0), (9, 0), (9, 0), (9, 0), (9, 0), (9, 0), (9, 0), (9, 0), (9, 0)] [] m0 Q
  refine zw_push zr_195_0 ?_
  refine zw_9 (L' := [(2, 69), (0, a0), (0, (-1)), (9, 0), (9, 0), (9, 0), (9, 0), (9, 0), (9, 0), (9, 0), (9, 0), (9, 0), (9, 0), (9, 0), (9, 0)]) zr_195_1 (Nat.le_of_ble_eq_true rfl) rfl ?_
  refine zw_push zr_195_2 ?_
  refine zw_13 (L' := [(2, 69), (0, a0), (0, (-1)), (1, 0), (9, 0), (9, 0), (9, 0), (9, 0), (9, 0), (9, 0), (9, 0), (9, 0), (9, 0), (9, 0), (9, 0)]) zr_195_3 (Nat.le_of_ble_eq_true rfl) rfl ?_
  refine zw_push zr_195_4 ?_
  refine zw_14 (L' := [(2, 69), (0, a0), (0, (-1)), (1, 0), (9, 0), (1, 1), (9, 0), (9, 0), (9, 0), (9, 0), (9, 0), (9, 0), (9, 0), (9, 0), (9, 0)]) zr_195_5 (Nat.le_of_ble_eq_true rfl) rfl ?_
  refine zw_push zr_195_7 ?_
  refine zw_10 (L' := [(2, 69), (0, a0), (0, (-1)), (1, 0), (9, 0), (1, 1), (9, 0), (0, 0), (9, 0), (9, 0), (9, 0), (9, 0), (9, 0), (9, 0), (9, 0)]) zr_195_8 (Nat.le_of_ble_eq_true rfl) rfl ?_
  have lp10_6 : ∀ (nlp10_6 : Nat) (i1 i2 i3 i4 : Int) (m5 : zM), zInv m5 → zFr W_195 m0 m5 → m5 70 = F70 → (-1) ≤ i1 → i1 ≤ 9 → (-9223372036854775808) ≤ i2 → i2 ≤ 9223372036854775807 → 1 ≤ i3 → i3 ≤ 10 → 0 ≤ i4 → i4 ≤ 10 → (10 - i4).toNat < nlp10_6 → zW E (d) 195 10 [(2, 69), (0, a0), (0, i1), (1, i2), (9, 0), (1, i3), (9, 0), (0, i4), (9, 0), (9, 0), (9, 0), (9, 0), (9, 0), (9, 0), (9, 0)] [] m5 Q := by
    intro nlp10_6
    induction nlp10_6 with
    | zero =>
      intros
      exact absurd (by assumption : _ < 0) (Nat.not_lt_zero _)
    | succ nlp10_6 ihlp10_6 =>
      intro i1 i2 i3 i4 m5 hIm5 hFm5 fm5_70 li1 ui1 li2 ui2 li3 ui3 li4 ui4 hmlp10_6
      refine zw_4 zr_195_10 rfl ?_
      refine zw_7 zr_195_12 rfl ?_
      refine zw_C zr_195_13 (Or.inl rfl) zm_141 rfl rfl ⟨Nat.le_of_ble_eq_true rfl, Nat.le_of_ble_eq_true rfl, Nat.le_of_ble_eq_true rfl, rfl, by decide⟩ (by omega) (P := (fun v m' => zW E (d) 195 16 [(2, 69), (0, a0), (0, i1), (1, i2), (9, 0), (1, i3), (9, 0), (0, i4), (9, 0), (9, 0), (9, 0), (9, 0), (9, 0), (9, 0), (9, 0)] (if v.1 = 9 then [(0, i4)] else v :: [(0, i4)]) m' Q)) ?_ (fun _ _ h => h)
      generalize hQ1 : (fun v m' => zW E (d) 195 16 [(2, 69), (0, a0), (0, i1), (1, i2), (9, 0), (1, i3), (9, 0), (0, i4), (9, 0), (9, 0), (9, 0), (9, 0), (9, 0), (9, 0), (9, 0)] (if v.1 = 9 then [(0, i4)] else v :: [(0, i4)]) m' Q) = Q1
      show zW E (d - 1) 141 0 [(2, 69)] [] m5 Q1
      refine zw_7 zr_141_0 rfl ?_
      refine zw_46r (s := 70) zr_141_1 rfl rfl rfl rfl ?_
      refine zw_push zr_141_4 ?_
      obtain ⟨f8, ef8⟩ : ∃ v, m5 70 822 = v := ⟨_, rfl⟩
      have bf8 : 0 ≤ m5 70 822 ∧ m5 70 822 ≤ 10 := ib_70_players hIm5 (by omega)
      rw [ef8] at bf8
      refine zw_48k (c := 70) (len := 826) zr_141_7 rfl rfl (by omega) (by omega) (show (822 : Int).toNat = 822 by omega) ef8 ?_
      refine zw_R zr_141_8 (by decide) zm_141 (v := (0, f8)) rfl ?_
      rw [← hQ1]
      show zW E (d) 195 16 [(2, 69), (0, a0), (0, i1), (1, i2), (9, 0), (1, i3), (9, 0), (0, i4), (9, 0), (9, 0), (9, 0), (9, 0), (9, 0), (9, 0), (9, 0)] [(0, f8), (0, i4)] m5 Q
      refine zw_41_3 zr_195_16 ?_ ?_
      · intro h9
        refine zw_3 zr_195_157 rfl ?_
        refine zw_push zr_195_158 ?_
        refine zw_41_1 zr_195_159 ?_ ?_
        · intro h10
          refine zw_3 zr_195_169 rfl ?_
          refine zw_R zr_195_170 (by decide) zm_195 (v := (0, i1)) rfl ?_
          rw [← hQ]; exact ⟨_, rfl, by omega, by omega, hIm5, hFm5⟩
        · intro h11
          refine zw_7 zr_195_162 rfl ?_
          refine zw_5 zr_195_163 rfl ?_
          refine zw_6 zr_195_164 rfl ?_
          refine zw_C zr_195_166 (Or.inl rfl) zm_173 rfl rfl ⟨Nat.le_of_ble_eq_true rfl, Nat.le_of_ble_eq_true rfl, Nat.le_of_ble_eq_true rfl, rfl, by decide⟩ (by omega) (th_173 (d := d - 1) (by omega) hIm5 (a0 := i2) (a1 := i3)      (by omega) (by omega) ) ?_
          rintro _ m12 ⟨rfl, hIm12, gm12⟩
          have hFm12 : zFr W_195 m0 m12 := hFm5.trans gm12 rfl
          have km12_70_822 : m12 70 822 = f8 := (gm12 70 822 rfl).trans ef8
          have fm12_70 : m12 70 = F70 := (funext fun k => gm12 70 k rfl).trans fm5_70
          show zW E (d) 195 169 [(2, 69), (0, a0), (0, i1), (1, i2), (9, 0), (1, i3), (9, 0), (0, i4), (9, 0), (9, 0), (9, 0), (9, 0), (9, 0), (9, 0), (9, 0)] [] m12 Q
          refine zw_3 zr_195_169 rfl ?_
          refine zw_R zr_195_170 (by decide) zm_195 (v := (0, i1)) rfl ?_
          rw [← hQ]; exact ⟨_, rfl, by omega, by omega, hIm12, hFm12⟩
      · intro h13
        refine zw_push zr_195_19 ?_
        refine zw_10 (L' := [(2, 69), (0, a0), (0, i1), (1, i2), (9, 0), (1, i3), (9, 0), (0, i4), (0, 0), (9, 0), (9, 0), (9, 0), (9, 0), (9, 0), (9, 0)]) zr_195_20 (Nat.le_of_ble_eq_true rfl) rfl ?_
        have lp22_19 : ∀ (nlp22_19 : Nat) (i14 i15 i16 i17 : Int) (m18 : zM), zInv m18 → zFr W_195 m0 m18 → m18 70 822 = f8 → m18 70 = F70 → (-1) ≤ i14 → i14 ≤ 9 → (-9223372036854775808) ≤ i15 → i15 ≤ 9223372036854775807 → 1 ≤ i16 → i16 ≤ 10 → 0 ≤ i17 → i17 ≤ 100 → (100 - i17).toNat < nlp22_19 → zW E (d) 195 22 [(2, 69), (0, a0), (0, i14), (1, i15), (9, 0), (1, i16), (9, 0), (0, i4), (0, i17), (9, 0), (9, 0), (9, 0), (9, 0), (9, 0), (9, 0)] [] m18 Q := by
          intro nlp22_19
          induction nlp22_19 with
          | zero =>
            intros
            exact absurd (by assumption : _ < 0) (Nat.not_lt_zero _)
          | succ nlp22_19 ihlp22_19 =>
            intro i14 i15 i16 i17 m18 hIm18 hFm18 km18_70_822 fm18_70 li14 ui14 li15 ui15 li16 ui16 li17 ui17 hmlp22_19
            refine zw_4 zr_195_22 rfl ?_
            refine zw_push zr_195_24 ?_
            refine zw_41_3 zr_195_26 ?_ ?_
            · intro h21
              refine zw_15 (c := 1) (L' := [(2, 69), (0, a0), (0, i14), (1, i15), (9, 0), (1, i16), (9, 0), (0, (i4 + 1)), (0, i17), (9, 0), (9, 0), (9, 0), (9, 0), (9, 0), (9, 0)]) zr_195_151 rfl (by decide) (by omega) rfl ?_
              refine zw_42 zr_195_154 ?_
              exact zw_less (L := [(2, 69), (0, a0), (0, i14), (1, i15), (9, 0), (1, i16), (9, 0), (0, (i4 + 1)), (9, 0), (9, 0), (9, 0), (9, 0), (9, 0), (9, 0), (9, 0)]) ⟨Or.inr rfl, Or.inr rfl, Or.inr rfl, Or.inr rfl, Or.inl rfl, Or.inr rfl, Or.inl rfl, Or.inr rfl, Or.inl rfl, Or.inl rfl, Or.inl rfl, Or.inl rfl, Or.inl rfl, Or.inl rfl, Or.inl rfl, trivial⟩ (ihlp10_6 (i14) (i15) (i16) ((i4 + 1)) m18 hIm18 hFm18   fm18_70 (by omega) (by omega) (by omega) (by omega) (by omega) (by omega) (by omega) (by omega)  (by omega))
            · intro h22
              refine zw_7 zr_195_29 rfl ?_
              refine zw_4 zr_195_30 rfl ?_
              refine zw_4 zr_195_32 rfl ?_
              refine zw_C zr_195_34 (Or.inl rfl) zm_172 rfl rfl ⟨Nat.le_of_ble_eq_true rfl, Nat.le_of_ble_eq_true rfl, Nat.le_of_ble_eq_true rfl, rfl, by decide⟩ (by omega) (th_172 (d := d - 1) (by omega) hIm18 (a0 := i4) (a1 := i17)   (F70 := F70)  fm18_70 (by omega) (by omega) ) ?_
              rintro _ _ ⟨r23, rfl, hr23a, hr23b, rfl, po0_r23⟩
              show zW E (d) 195 37 [(2, 69), (0, a0), (0, i14), (1, i15), (9, 0), (1, i16), (9, 0), (0, i4), (0, i17), (9, 0), (9, 0), (9, 0), (9, 0), (9, 0), (9, 0)] [(0, r23)] m18 Q
              refine zw_40_1 zr_195_37 ?_ ?_
              · intro h24
                refine zw_15 (c := 1) (L' := [(2, 69), (0, a0), (0, i14), (1, i15), (9, 0), (1, i16), (9, 0), (0, i4), (0, (i17 + 1)), (9, 0), (9, 0), (9, 0), (9, 0), (9, 0), (9, 0)]) zr_195_145 rfl (by decide) (by omega) rfl ?_
                refine zw_42 zr_195_148 ?_
                exact zw_less (L := [(2, 69), (0, a0), (0, i14), (1, i15), (9, 0), (1, i16), (9, 0), (0, i4), (0, (i17 + 1)), (9, 0), (9, 0), (9, 0), (9, 0), (9, 0), (9, 0)]) ⟨Or.inr rfl, Or.inr rfl, Or.inr rfl, Or.inr rfl, Or.inl rfl, Or.inr rfl, Or.inl rfl, Or.inr rfl, Or.inr rfl, Or.inl rfl, Or.inl rfl, Or.inl rfl, Or.inl rfl, Or.inl rfl, Or.inl rfl, trivial⟩ (ihlp22_19 (i14) (i15) (i16) ((i17 + 1)) m18 hIm18 hFm18  km18_70_822 fm18_70 (by omega) (by omega) (by omega) (by omega) (by omega) (by omega) (by omega) (by omega)  (by omega))
              · intro h25
                refine zw_7 zr_195_40 rfl ?_
                refine zw_3 zr_195_41 rfl ?_
                refine zw_4 zr_195_42 rfl ?_
                refine zw_C zr_195_44 (Or.inl rfl) zm_167 rfl rfl ⟨Nat.le_of_ble_eq_true rfl, Nat.le_of_ble_eq_true rfl, Nat.le_of_ble_eq_true rfl, rfl, by decide⟩ (by omega) (th_167 (d := d - 1) (by omega) hIm18 (a0 := a0) (a1 := i17)      (by omega) (by omega) ) ?_
                rintro _ m26 ⟨rfl, hIm26, gm26⟩
                have hFm26 : zFr W_195 m0 m26 := hFm18.trans gm26 rfl
                have km26_70_822 : m26 70 822 = f8 := (gm26 70 822 rfl).trans km18_70_822
                have fm26_70 : m26 70 = F70 := (funext fun k => gm26 70 k rfl).trans fm18_70
                show zW E (d) 195 47 [(2, 69), (0, a0), (0, i14), (1, i15), (9, 0), (1, i16), (9, 0), (0, i4), (0, i17), (9, 0), (9, 0), (9, 0), (9, 0), (9, 0), (9, 0)] [] m26 Q
                refine zw_push zr_195_47 ?_
                refine zw_14 (L' := [(2, 69), (0, a0), (0, i14), (1, i15), (9, 0), (1, i16), (9, 0), (0, i4), (0, i17), (1, 0), (9, 0), (9, 0), (9, 0), (9, 0), (9, 0)]) zr_195_48 (Nat.le_of_ble_eq_true rfl) rfl ?_
                refine zw_push zr_195_50 ?_
                refine zw_14 (L' := [(2, 69), (0, a0), (0, i14), (1, i15), (9, 0), (1, i16), (9, 0), (0, i4), (0, i17), (1, 0), (9, 0), (1, 0), (9, 0), (9, 0), (9, 0)]) zr_195_51 (Nat.le_of_ble_eq_true rfl) rfl ?_
                refine zw_push zr_195_53 ?_
                refine zw_10 (L' := [(2, 69), (0, a0), (0, i14), (1, i15), (9, 0), (1, i16), (9, 0), (0, i4), (0, i17), (1, 0), (9, 0), (1, 0), (9, 0), (0, 0), (9, 0)]) zr_195_54 (Nat.le_of_ble_eq_true rfl) rfl ?_
                have lp56_30 : ∀ (nlp56_30 : Nat) (i27 i28 i29 : Int), (-9223372036854775808) ≤ i27 → i27 ≤ 9223372036854775807 → 0 ≤ i28 → i28 ≤ 10 → 0 ≤ i29 → i29 ≤ 10 → (i28 ≤ i29) → (i29 ≤ i4 ∨ 1 ≤ i28) → (10 - i29).toNat < nlp56_30 → zW E (d) 195 56 [(2, 69), (0, a0), (0, i14), (1, i15), (9, 0), (1, i16), (9, 0), (0, i4), (0, i17), (1, i27), (9, 0), (1, i28), (9, 0), (0, i29), (9, 0)] [] m26 Q := by
                  intro nlp56_30
                  induction nlp56_30 with
                  | zero =>
                    intros
                    exact absurd (by assumption : _ < 0) (Nat.not_lt_zero _)
                  | succ nlp56_30 ihlp56_30 =>
                    intro i27 i28 i29 li27 ui27 li28 ui28 li29 ui29 hv0lp56_30 hv1lp56_30 hmlp56_30
                    refine zw_4 zr_195_56 rfl ?_
                    refine zw_7 zr_195_58 rfl ?_
                    refine zw_C zr_195_59 (Or.inl rfl) zm_141 rfl rfl ⟨Nat.le_of_ble_eq_true rfl, Nat.le_of_ble_eq_true rfl, Nat.le_of_ble_eq_true rfl, rfl, by decide⟩ (by omega) (P := (fun v m' => zW E (d) 195 62 [(2, 69), (0, a0), (0, i14), (1, i15), (9, 0), (1, i16), (9, 0), (0, i4), (0, i17), (1, i27), (9, 0), (1, i28), (9, 0), (0, i29), (9, 0)] (if v.1 = 9 then [(0, i29)] else v :: [(0, i29)]) m' Q)) ?_ (fun _ _ h => h)
                    generalize hQ1 : (fun v m' => zW E (d) 195 62 [(2, 69), (0, a0), (0, i14), (1, i15), (9, 0), (1, i16), (9, 0), (0, i4), (0, i17), (1, i27), (9, 0), (1, i28), (9, 0), (0, i29), (9, 0)] (if v.1 = 9 then [(0, i29)] else v :: [(0, i29)]) m' Q) = Q1
                    show zW E (d - 1) 141 0 [(2, 69)] [] m26 Q1
                    refine zw_7 zr_141_0 rfl ?_
                    refine zw_46r (s := 70) zr_141_1 rfl rfl rfl rfl ?_
                    refine zw_push zr_141_4 ?_
                    refine zw_48k (c := 70) (len := 826) zr_141_7 rfl rfl (by omega) (by omega) (show (822 : Int).toNat = 822 by omega) km26_70_822 ?_
                    refine zw_R zr_141_8 (by decide) zm_141 (v := (0, f8)) rfl ?_
                    rw [← hQ1]
                    show zW E (d) 195 62 [(2, 69), (0, a0), (0, i14), (1, i15), (9, 0), (1, i16), (9, 0), (0, i4), (0, i17), (1, i27), (9, 0), (1, i28), (9, 0), (0, i29), (9, 0)] [(0, f8), (0, i29)] m26 Q
                    refine zw_41_3 zr_195_62 ?_ ?_
                    · intro h32
                      refine zw_6 zr_195_101 rfl ?_
                      refine zw_7 zr_195_103 rfl ?_
                      refine zw_46r (s := 76) zr_195_104 rfl rfl rfl rfl ?_
                      refine zw_4 zr_195_107 rfl ?_
                      refine zw_48 (c := 76) (len := 10) zr_195_109 rfl rfl (by omega) (by omega) ?_
                      intro x33 ex33
                      have bx33 := hIm26.ra (c := 76) (len := 10) (k := (i4).toNat) rfl (by omega)
                      rw [← ex33] at bx33
                      clear ex33
                      refine zw_36 zr_195_110 ?_
                      refine zw_29h zr_195_111 ?_
                      intro x34 hx34a hx34b
                      refine zw_6 zr_195_112 rfl ?_
                      refine zw_28h zr_195_114 ?_
                      intro x35 hx35a hx35b
                      refine zw_14 (L' := [(2, 69), (0, a0), (0, i14), (1, i15), (9, 0), (1, i16), (9, 0), (0, i4), (0, i17), (1, i27), (9, 0), (1, i28), (9, 0), (1, x35), (9, 0)]) zr_195_115 (Nat.le_of_ble_eq_true rfl) rfl ?_
                      refine zw_3 zr_195_117 rfl ?_
                      refine zw_push zr_195_118 ?_
                      refine zw_41_1 zr_195_119 ?_ ?_
                      · intro h36
                        refine zw_4 zr_195_135 rfl ?_
                        refine zw_9 (L' := [(2, 69), (0, a0), (0, i4), (1, i15), (9, 0), (1, i16), (9, 0), (0, i4), (0, i17), (1, i27), (9, 0), (1, i28), (9, 0), (1, x35), (9, 0)]) zr_195_137 (Nat.le_of_ble_eq_true rfl) rfl ?_
                        refine zw_6 zr_195_138 rfl ?_
                        refine zw_13 (L' := [(2, 69), (0, a0), (0, i4), (1, x35), (9, 0), (1, i16), (9, 0), (0, i4), (0, i17), (1, i27), (9, 0), (1, i28), (9, 0), (1, x35), (9, 0)]) zr_195_140 (Nat.le_of_ble_eq_true rfl) rfl ?_
                        refine zw_6 zr_195_141 rfl ?_
                        refine zw_14 (L' := [(2, 69), (0, a0), (0, i4), (1, x35), (9, 0), (1, i28), (9, 0), (0, i4), (0, i17), (1, i27), (9, 0), (1, i28), (9, 0), (1, x35), (9, 0)]) zr_195_143 (Nat.le_of_ble_eq_true rfl) rfl ?_
                        refine zw_15 (c := 1) (L' := [(2, 69), (0, a0), (0, i4), (1, x35), (9, 0), (1, i28), (9, 0), (0, i4), (0, (i17 + 1)), (1, i27), (9, 0), (1, i28), (9, 0), (1, x35), (9, 0)]) zr_195_145 rfl (by decide) (by omega) rfl ?_
                        refine zw_42 zr_195_148 ?_
                        exact zw_less (L := [(2, 69), (0, a0), (0, i4), (1, x35), (9, 0), (1, i28), (9, 0), (0, i4), (0, (i17 + 1)), (9, 0), (9, 0), (9, 0), (9, 0), (9, 0), (9, 0)]) ⟨Or.inr rfl, Or.inr rfl, Or.inr rfl, Or.inr rfl, Or.inl rfl, Or.inr rfl, Or.inl rfl, Or.inr rfl, Or.inr rfl, Or.inl rfl, Or.inl rfl, Or.inl rfl, Or.inl rfl, Or.inl rfl, Or.inl rfl, trivial⟩ (ihlp22_19 (i4) (x35) (i28) ((i17 + 1)) m26 hIm26 hFm26  km26_70_822 fm26_70 (by omega) (by omega) (by omega) (by omega) (by omega) (by omega) (by omega) (by omega)  (by omega))
                      · intro h37
                        refine zw_6 zr_195_122 rfl ?_
                        refine zw_6 zr_195_124 rfl ?_
                        refine zw_29h zr_195_126 ?_
                        intro x38 hx38a hx38b
                        refine zw_5 zr_195_127 rfl ?_
                        refine zw_6 zr_195_128 rfl ?_
                        refine zw_29h zr_195_130 ?_
                        intro x39 hx39a hx39b
                        refine zw_39_5 zr_195_131 zr_195_132 ?_ ?_
                        · intro h40
                          refine zw_15 (c := 1) (L' := [(2, 69), (0, a0), (0, i14), (1, i15), (9, 0), (1, i16), (9, 0), (0, i4), (0, (i17 + 1)), (1, i27), (9, 0), (1, i28), (9, 0), (1, x35), (9, 0)]) zr_195_145 rfl (by decide) (by omega) rfl ?_
                          refine zw_42 zr_195_148 ?_
                          exact zw_less (L := [(2, 69), (0, a0), (0, i14), (1, i15), (9, 0), (1, i16), (9, 0), (0, i4), (0, (i17 + 1)), (9, 0), (9, 0), (9, 0), (9, 0), (9, 0), (9, 0)]) ⟨Or.inr rfl, Or.inr rfl, Or.inr rfl, Or.inr rfl, Or.inl rfl, Or.inr rfl, Or.inl rfl, Or.inr rfl, Or.inr rfl, Or.inl rfl, Or.inl rfl, Or.inl rfl, Or.inl rfl, Or.inl rfl, Or.inl rfl, trivial⟩ (ihlp22_19 (i14) (i15) (i16) ((i17 + 1)) m26 hIm26 hFm26  km26_70_822 fm26_70 (by omega) (by omega) (by omega) (by omega) (by omega) (by omega) (by omega) (by omega)  (by omega))
                        · intro h41
                          refine zw_4 zr_195_135 rfl ?_
                          refine zw_9 (L' := [(2, 69), (0, a0), (0, i4), (1, i15), (9, 0), (1, i16), (9, 0), (0, i4), (0, i17), (1, i27), (9, 0), (1, i28), (9, 0), (1, x35), (9, 0)]) zr_195_137 (Nat.le_of_ble_eq_true rfl) rfl ?_
                          refine zw_6 zr_195_138 rfl ?_
                          refine zw_13 (L' := [(2, 69), (0, a0), (0, i4), (1, x35), (9, 0), (1, i16), (9, 0), (0, i4), (0, i17), (1, i27), (9, 0), (1, i28), (9, 0), (1, x35), (9, 0)]) zr_195_140 (Nat.le_of_ble_eq_true rfl) rfl ?_
                          refine zw_6 zr_195_141 rfl ?_
                          refine zw_14 (L' := [(2, 69), (0, a0), (0, i4), (1, x35), (9, 0), (1, i28), (9, 0), (0, i4), (0, i17), (1, i27), (9, 0), (1, i28), (9, 0), (1, x35), (9, 0)]) zr_195_143 (Nat.le_of_ble_eq_true rfl) rfl ?_
                          refine zw_15 (c := 1) (L' := [(2, 69), (0, a0), (0, i4), (1, x35), (9, 0), (1, i28), (9, 0), (0, i4), (0, (i17 + 1)), (1, i27), (9, 0), (1, i28), (9, 0), (1, x35), (9, 0)]) zr_195_145 rfl (by decide) (by omega) rfl ?_
                          refine zw_42 zr_195_148 ?_
                          exact zw_less (L := [(2, 69), (0, a0), (0, i4), (1, x35), (9, 0), (1, i28), (9, 0), (0, i4), (0, (i17 + 1)), (9, 0), (9, 0), (9, 0), (9, 0), (9, 0), (9, 0)]) ⟨Or.inr rfl, Or.inr rfl, Or.inr rfl, Or.inr rfl, Or.inl rfl, Or.inr rfl, Or.inl rfl, Or.inr rfl, Or.inr rfl, Or.inl rfl, Or.inl rfl, Or.inl rfl, Or.inl rfl, Or.inl rfl, Or.inl rfl, trivial⟩ (ihlp22_19 (i4) (x35) (i28) ((i17 + 1)) m26 hIm26 hFm26  km26_70_822 fm26_70 (by omega) (by omega) (by omega) (by omega) (by omega) (by omega) (by omega) (by omega)  (by omega))
                    · intro h42
                      refine zw_7 zr_195_65 rfl ?_
                      refine zw_4 zr_195_66 rfl ?_
                      refine zw_4 zr_195_68 rfl ?_
                      refine zw_C zr_195_70 (Or.inl rfl) zm_172 rfl rfl ⟨Nat.le_of_ble_eq_true rfl, Nat.le_of_ble_eq_true rfl, Nat.le_of_ble_eq_true rfl, rfl, by decide⟩ (by omega) (th_172 (d := d - 1) (by omega) hIm26 (a0 := i29) (a1 := i17)   (F70 := F70)  fm26_70 (by omega) (by omega) ) ?_
                      rintro _ _ ⟨r43, rfl, hr43a, hr43b, rfl, po0_r43⟩
                      show zW E (d) 195 73 [(2, 69), (0, a0), (0, i14), (1, i15), (9, 0), (1, i16), (9, 0), (0, i4), (0, i17), (1, i27), (9, 0), (1, i28), (9, 0), (0, i29), (9, 0)] [(0, r43)] m26 Q
                      have z44 := zcgh F70 (i29) (i4) (i17) (F70 823).toNat
                      refine zw_40_1 zr_195_73 ?_ ?_
                      · intro h45
                        refine zw_15 (c := 1) (L' := [(2, 69), (0, a0), (0, i14), (1, i15), (9, 0), (1, i16), (9, 0), (0, i4), (0, i17), (1, i27), (9, 0), (1, i28), (9, 0), (0, (i29 + 1)), (9, 0)]) zr_195_95 rfl (by decide) (by omega) rfl ?_
                        refine zw_42 zr_195_98 ?_
                        exact zw_less (L := [(2, 69), (0, a0), (0, i14), (1, i15), (9, 0), (1, i16), (9, 0), (0, i4), (0, i17), (1, i27), (9, 0), (1, i28), (9, 0), (0, (i29 + 1)), (9, 0)]) ⟨Or.inr rfl, Or.inr rfl, Or.inr rfl, Or.inr rfl, Or.inl rfl, Or.inr rfl, Or.inl rfl, Or.inr rfl, Or.inr rfl, Or.inr rfl, Or.inl rfl, Or.inr rfl, Or.inl rfl, Or.inr rfl, Or.inl rfl, trivial⟩ (ihlp56_30 (i27) (i28) ((i29 + 1))  (by omega) (by omega) (by omega) (by omega) (by omega) (by omega) (by omega) (by omega) (by omega))
                      · intro h46
                        refine zw_6 zr_195_76 rfl ?_
                        refine zw_7 zr_195_78 rfl ?_
                        refine zw_46r (s := 76) zr_195_79 rfl rfl rfl rfl ?_
                        refine zw_4 zr_195_82 rfl ?_
                        refine zw_48 (c := 76) (len := 10) zr_195_84 rfl rfl (by omega) (by omega) ?_
                        intro x47 ex47
                        have bx47 := hIm26.ra (c := 76) (len := 10) (k := (i29).toNat) rfl (by omega)
                        rw [← ex47] at bx47
                        clear ex47
                        refine zw_36 zr_195_85 ?_
                        refine zw_27h zr_195_86 ?_
                        intro x48 hx48a hx48b
                        refine zw_14 (L' := [(2, 69), (0, a0), (0, i14), (1, i15), (9, 0), (1, i16), (9, 0), (0, i4), (0, i17), (1, x48), (9, 0), (1, i28), (9, 0), (0, i29), (9, 0)]) zr_195_87 (Nat.le_of_ble_eq_true rfl) rfl ?_
                        refine zw_6 zr_195_89 rfl ?_
                        refine zw_push zr_195_91 ?_
                        refine zw_27 zr_195_92 (by omega) ?_
                        refine zw_14 (L' := [(2, 69), (0, a0), (0, i14), (1, i15), (9, 0), (1, i16), (9, 0), (0, i4), (0, i17), (1, x48), (9, 0), (1, (i28 + 1)), (9, 0), (0, i29), (9, 0)]) zr_195_93 (Nat.le_of_ble_eq_true rfl) rfl ?_
                        refine zw_15 (c := 1) (L' := [(2, 69), (0, a0), (0, i14), (1, i15), (9, 0), (1, i16), (9, 0), (0, i4), (0, i17), (1, x48), (9, 0), (1, (i28 + 1)), (9, 0), (0, (i29 + 1)), (9, 0)]) zr_195_95 rfl (by decide) (by omega) rfl ?_
                        refine zw_42 zr_195_98 ?_
                        exact zw_less (L := [(2, 69), (0, a0), (0, i14), (1, i15), (9, 0), (1, i16), (9, 0), (0, i4), (0, i17), (1, x48), (9, 0), (1, (i28 + 1)), (9, 0), (0, (i29 + 1)), (9, 0)]) ⟨Or.inr rfl, Or.inr rfl, Or.inr rfl, Or.inr rfl, Or.inl rfl, Or.inr rfl, Or.inl rfl, Or.inr rfl, Or.inr rfl, Or.inr rfl, Or.inl rfl, Or.inr rfl, Or.inl rfl, Or.inr rfl, Or.inl rfl, trivial⟩ (ihlp56_30 (x48) ((i28 + 1)) ((i29 + 1))  (by omega) (by omega) (by omega) (by omega) (by omega) (by omega) (by omega) (by omega) (by omega))
                exact lp56_30 _ (0) (0) (0)  (by omega) (by omega) (by omega) (by omega) (by omega) (by omega) (by omega) (by omega) (Nat.lt_succ_self _)
        exact lp22_19 _ (i1) (i2) (i3) (0) m5 hIm5 hFm5  ef8 fm5_70 (by omega) (by omega) (by omega) (by omega) (by omega) (by omega) (by omega) (by omega)  (Nat.lt_succ_self _)
  exact lp10_6 _ ((-1)) (0) (1) (0) m0 hI0 hF0  hG70 (by omega) (by omega) (by omega) (by omega) (by omega) (by omega) (by omega) (by omega)  (Nat.lt_succ_self _)

abbrev W_196 : List (Nat × Nat) := [(69, 3), (69, 4), (69, 5), (69, 6), (69, 7), (69, 9), (69, 11), (69, 13), (69, 17), (69, 18), (69, 23), (69, 24), (73, 1000), (74, 1000), (75, 1000), (76, 1000), (77, 1000), (78, 1000), (82, 1000)]
set_option maxHeartbeats 8000000 in
theorem th_196 {E : zE} {d : Nat} {m0 : zM} {a0 : Int} {a1 : Int} {a2 : Int} (hd : 9 ≤ d) (hI0 : zInv m0) (ha0 : (-2147483648) ≤ a0 ∧ a0 ≤ 2147483647) (ha1 : (-2147483648) ≤ a1 ∧ a1 ≤ 2147483647) (ha2 : (-2147483648) ≤ a2 ∧ a2 ≤ 2147483647) : zC E d 196 [(2, 69), (0, a0), (0, a1), (0, a2)] m0 (fun v m' => ∃ r : Int, v = (0, r) ∧ (-2) ≤ r ∧ r ≤ 9 ∧ zInv m' ∧ zFr W_196 m0 m') := by
  have hF0 : zFr W_196 m0 m0 := zFr.rfl
  generalize hQ : (fun (v : zV) (m' : zM) => ∃ r : Int, v = (0, r) ∧ (-2) ≤ r ∧ r ≤ 9 ∧ zInv m' ∧ zFr W_196 m0 m') = Q
  show zW E d 196 0 [(2, 69), (0, a0), (0, a1), (0, a2), (9, 0), (9, 0), (9, 0)] [] m0 Q
  refine zw_3 zr_196_0 rfl ?_
  refine zw_C zr_196_1 (Or.inr rfl) zm_148 rfl rfl ⟨Nat.le_of_ble_eq_true rfl, Nat.le_of_ble_eq_true rfl, Nat.le_of_ble_eq_true rfl, rfl, by decide⟩ (by omega) (P := (fun v m' => zW E (d) 196 4 [(2, 69), (0, a0), (0, a1), (0, a2), (9, 0), (9, 0), (9, 0)] (if v.1 = 9 then [] else v :: []) m' Q)) ?_ (fun _ _ h => h)
  generalize hQ1 : (fun v m' => zW E (d) 196 4 [(2, 69), (0, a0), (0, a1), (0, a2), (9, 0), (9, 0), (9, 0)] (if v.1 = 9 then [] else v :: []) m' Q) = Q1
  show zW E (d - 1) 148 0 [(0, a0)] [] m0 Q1
  refine zw_3 zr_148_0 rfl ?_
  refine zw_36 zr_148_1 ?_
  refine zw_push zr_148_2 ?_
  refine zw_push zr_148_3 ?_
  refine zw_C zr_148_6 (Or.inr rfl) zm_140 rfl rfl ⟨Nat.le_of_ble_eq_true rfl, Nat.le_of_ble_eq_true rfl, Nat.le_of_ble_eq_true rfl, rfl, by decide⟩ (by omega) (P := (fun v m' => zW E (d - 1) 148 9 [(0, a0)] (if v.1 = 9 then [] else v :: []) m' Q1)) ?_ (fun _ _ h => h)
  generalize hQ2 : (fun v m' => zW E (d - 1) 148 9 [(0, a0)] (if v.1 = 9 then [] else v :: []) m' Q1) = Q2
  show zW E (d - 1 - 1) 140 0 [(1, a0), (9, 0), (1, 0), (9, 0), (1, 3), (9, 0)] [] m0 Q2
  refine zw_5 zr_140_0 rfl ?_
  refine zw_5 zr_140_1 rfl ?_
  refine zw_39_0 zr_140_2 zr_140_3 ?_ ?_
  · intro h1
    refine zw_push zr_140_17 ?_
    refine zw_R zr_140_18 (by decide) zm_140 (v := (0, 0)) (zRetB (by omega)) ?_
    rw [← hQ2]
    show zW E (d - 1) 148 9 [(0, a0)] [(0, 0)] m0 Q1
    refine zw_R zr_148_9 (by decide) zm_148 (v := (0, 0)) (zRetB (by omega)) ?_
    rw [← hQ1]
    show zW E (d) 196 4 [(2, 69), (0, a0), (0, a1), (0, a2), (9, 0), (9, 0), (9, 0)] [(0, 0)] m0 Q
    refine zw_40_1 zr_196_4 ?_ ?_
    · intro h2
      refine zw_push zr_196_36 ?_
      refine zw_R zr_196_38 (by decide) zm_196 (v := (0, (-2))) rfl ?_
      rw [← hQ]; exact ⟨_, rfl, by omega, by omega, hI0, hF0⟩
    · intro h3; omega
  · intro h4
    refine zw_5 zr_140_6 rfl ?_
    refine zw_6 zr_140_7 rfl ?_
    refine zw_39_2 zr_140_9 zr_140_10 ?_ ?_
    · intro h5
      refine zw_push zr_140_17 ?_
      refine zw_R zr_140_18 (by decide) zm_140 (v := (0, 0)) (zRetB (by omega)) ?_
      rw [← hQ2]
      show zW E (d - 1) 148 9 [(0, a0)] [(0, 0)] m0 Q1
      refine zw_R zr_148_9 (by decide) zm_148 (v := (0, 0)) (zRetB (by omega)) ?_
      rw [← hQ1]
      show zW E (d) 196 4 [(2, 69), (0, a0), (0, a1), (0, a2), (9, 0), (9, 0), (9, 0)] [(0, 0)] m0 Q
      refine zw_40_1 zr_196_4 ?_ ?_
      · intro h6
        refine zw_push zr_196_36 ?_
        refine zw_R zr_196_38 (by decide) zm_196 (v := (0, (-2))) rfl ?_
        rw [← hQ]; exact ⟨_, rfl, by omega, by omega, hI0, hF0⟩
      · intro h7; omega
    · intro h8
      refine zw_push zr_140_13 ?_
      refine zw_42 zr_140_14 ?_
      refine zw_R zr_140_18 (by decide) zm_140 (v := (0, 1)) (zRetB (by omega)) ?_
      rw [← hQ2]
      show zW E (d - 1) 148 9 [(0, a0)] [(0, 1)] m0 Q1
      refine zw_R zr_148_9 (by decide) zm_148 (v := (0, 1)) (zRetB (by omega)) ?_
      rw [← hQ1]
      show zW E (d) 196 4 [(2, 69), (0, a0), (0, a1), (0, a2), (9, 0), (9, 0), (9, 0)] [(0, 1)] m0 Q
      refine zw_40_1 zr_196_4 ?_ ?_
      · intro h9; omega
      · intro h10
        refine zw_3 zr_196_7 rfl ?_
        refine zw_36 zr_196_8 ?_
        refine zw_push zr_196_9 ?_
        refine zw_push zr_196_10 ?_
        refine zw_C zr_196_13 (Or.inr rfl) zm_140 rfl rfl ⟨Nat.le_of_ble_eq_true rfl, Nat.le_of_ble_eq_true rfl, Nat.le_of_ble_eq_true rfl, rfl, by decide⟩ (by omega) (P := (fun v m' => zW E (d) 196 16 [(2, 69), (0, a0), (0, a1), (0, a2), (9, 0), (9, 0), (9, 0)] (if v.1 = 9 then [] else v :: []) m' Q)) ?_ (fun _ _ h => h)
        generalize hQ1 : (fun v m' => zW E (d) 196 16 [(2, 69), (0, a0), (0, a1), (0, a2), (9, 0), (9, 0), (9, 0)] (if v.1 = 9 then [] else v :: []) m' Q) = Q1
        show zW E (d - 1) 140 0 [(1, a1), (9, 0), (1, 0), (9, 0), (1, 2), (9, 0)] [] m0 Q1
        refine zw_5 zr_140_0 rfl ?_
        refine zw_5 zr_140_1 rfl ?_
        refine zw_39_0 zr_140_2 zr_140_3 ?_ ?_
        · intro h11
          refine zw_push zr_140_17 ?_
          refine zw_R zr_140_18 (by decide) zm_140 (v := (0, 0)) (zRetB (by omega)) ?_
          rw [← hQ1]
          show zW E (d) 196 16 [(2, 69), (0, a0), (0, a1), (0, a2), (9, 0), (9, 0), (9, 0)] [(0, 0)] m0 Q
          refine zw_40_1 zr_196_16 ?_ ?_
          · intro h12
            refine zw_push zr_196_36 ?_
            refine zw_R zr_196_38 (by decide) zm_196 (v := (0, (-2))) rfl ?_
            rw [← hQ]; exact ⟨_, rfl, by omega, by omega, hI0, hF0⟩
          · intro h13; omega
        · intro h14
          refine zw_5 zr_140_6 rfl ?_
          refine zw_6 zr_140_7 rfl ?_
          refine zw_39_2 zr_140_9 zr_140_10 ?_ ?_
          · intro h15
            refine zw_push zr_140_17 ?_
            refine zw_R zr_140_18 (by decide) zm_140 (v := (0, 0)) (zRetB (by omega)) ?_
            rw [← hQ1]
            show zW E (d) 196 16 [(2, 69), (0, a0), (0, a1), (0, a2), (9, 0), (9, 0), (9, 0)] [(0, 0)] m0 Q
            refine zw_40_1 zr_196_16 ?_ ?_
            · intro h16
              refine zw_push zr_196_36 ?_
              refine zw_R zr_196_38 (by decide) zm_196 (v := (0, (-2))) rfl ?_
              rw [← hQ]; exact ⟨_, rfl, by omega, by omega, hI0, hF0⟩
            · intro h17; omega
          · intro h18
            refine zw_push zr_140_13 ?_
            refine zw_42 zr_140_14 ?_
            refine zw_R zr_140_18 (by decide) zm_140 (v := (0, 1)) (zRetB (by omega)) ?_
            rw [← hQ1]
            show zW E (d) 196 16 [(2, 69), (0, a0), (0, a1), (0, a2), (9, 0), (9, 0), (9, 0)] [(0, 1)] m0 Q
            refine zw_40_1 zr_196_16 ?_ ?_
            · intro h19; omega
            · intro h20
              refine zw_3 zr_196_19 rfl ?_
              refine zw_push zr_196_20 ?_
              refine zw_41_4 zr_196_21 ?_ ?_
              · intro h21
                refine zw_3 zr_196_39 rfl ?_
                refine zw_push zr_196_40 ?_
                refine zw_41_4 zr_196_41 ?_ ?_
                · intro h22
                  refine zw_push zr_196_50 ?_
                  refine zw_10 (L' := [(2, 69), (0, a0), (0, a1), (0, a2), (0, (-1)), (9, 0), (9, 0)]) zr_196_51 (Nat.le_of_ble_eq_true rfl) rfl ?_
                  refine zw_push zr_196_53 ?_
                  refine zw_10 (L' := [(2, 69), (0, a0), (0, a1), (0, a2), (0, (-1)), (0, 0), (9, 0)]) zr_196_54 (Nat.le_of_ble_eq_true rfl) rfl ?_
                  refine zw_push zr_196_56 ?_
                  refine zw_10 (L' := [(2, 69), (0, a0), (0, a1), (0, a2), (0, (-1)), (0, 0), (0, 0)]) zr_196_57 (Nat.le_of_ble_eq_true rfl) rfl ?_
                  have lp59_27 : ∀ (nlp59_27 : Nat) (i23 i24 i25 : Int) (m26 : zM), zInv m26 → zFr W_196 m0 m26 → (-1) ≤ i23 → i23 ≤ 9 → (-2147483648) ≤ i24 → i24 ≤ 2147483647 → 0 ≤ i25 → i25 ≤ 10 → (10 - i25).toNat < nlp59_27 → zW E (d) 196 59 [(2, 69), (0, a0), (0, a1), (0, a2), (0, i23), (0, i24), (0, i25)] [] m26 Q := by
                    intro nlp59_27
                    induction nlp59_27 with
                    | zero =>
                      intros
                      exact absurd (by assumption : _ < 0) (Nat.not_lt_zero _)
                    | succ nlp59_27 ihlp59_27 =>
                      intro i23 i24 i25 m26 hIm26 hFm26 li23 ui23 li24 ui24 li25 ui25 hmlp59_27
                      refine zw_4 zr_196_59 rfl ?_
                      refine zw_7 zr_196_61 rfl ?_
                      refine zw_C zr_196_62 (Or.inl rfl) zm_141 rfl rfl ⟨Nat.le_of_ble_eq_true rfl, Nat.le_of_ble_eq_true rfl, Nat.le_of_ble_eq_true rfl, rfl, by decide⟩ (by omega) (P := (fun v m' => zW E (d) 196 65 [(2, 69), (0, a0), (0, a1), (0, a2), (0, i23), (0, i24), (0, i25)] (if v.1 = 9 then [(0, i25)] else v :: [(0, i25)]) m' Q)) ?_ (fun _ _ h => h)
                      generalize hQ1 : (fun v m' => zW E (d) 196 65 [(2, 69), (0, a0), (0, a1), (0, a2), (0, i23), (0, i24), (0, i25)] (if v.1 = 9 then [(0, i25)] else v :: [(0, i25)]) m' Q) = Q1
                      show zW E (d - 1) 141 0 [(2, 69)] [] m26 Q1
                      refine zw_7 zr_141_0 rfl ?_
                      refine zw_46r (s := 70) zr_141_1 rfl rfl rfl rfl ?_
                      refine zw_push zr_141_4 ?_
                      obtain ⟨f29, ef29⟩ : ∃ v, m26 70 822 = v := ⟨_, rfl⟩
                      have bf29 : 0 ≤ m26 70 822 ∧ m26 70 822 ≤ 10 := ib_70_players hIm26 (by omega)
                      rw [ef29] at bf29
                      refine zw_48k (c := 70) (len := 826) zr_141_7 rfl rfl (by omega) (by omega) (show (822 : Int).toNat = 822 by omega) ef29 ?_
                      refine zw_R zr_141_8 (by decide) zm_141 (v := (0, f29)) rfl ?_
                      rw [← hQ1]
                      show zW E (d) 196 65 [(2, 69), (0, a0), (0, a1), (0, a2), (0, i23), (0, i24), (0, i25)] [(0, f29), (0, i25)] m26 Q
                      refine zw_41_3 zr_196_65 ?_ ?_
                      · intro h30
                        refine zw_4 zr_196_118 rfl ?_
                        refine zw_R zr_196_120 (by decide) zm_196 (v := (0, i23)) rfl ?_
                        rw [← hQ]; exact ⟨_, rfl, by omega, by omega, hIm26, hFm26⟩
                      · intro h31
                        refine zw_7 zr_196_68 rfl ?_
                        refine zw_3 zr_196_69 rfl ?_
                        refine zw_4 zr_196_70 rfl ?_
                        refine zw_3 zr_196_72 rfl ?_
                        refine zw_40_4 zr_196_73 ?_ ?_
                        · intro h32
                          refine zw_3 zr_196_80 rfl ?_
                          refine zw_C zr_196_81 (Or.inl rfl) zm_194 rfl rfl ⟨Nat.le_of_ble_eq_true rfl, Nat.le_of_ble_eq_true rfl, Nat.le_of_ble_eq_true rfl, rfl, by decide⟩ (by omega) (th_194 (d := d - 1) (by omega) hIm26 (a0 := a0) (a1 := i25) (a2 := a2)      (by omega) (by omega) (by omega) ) ?_
                          rintro _ m33 ⟨r34, rfl, hr34a, hr34b, hIm33, gm33⟩
                          have hFm33 : zFr W_196 m0 m33 := hFm26.trans gm33 rfl
                          have km33_70_822 : m33 70 822 = f29 := (gm33 70 822 rfl).trans ef29
                          show zW E (d) 196 84 [(2, 69), (0, a0), (0, a1), (0, a2), (0, i23), (0, i24), (0, i25)] [(0, r34)] m33 Q
                          refine zw_40_1 zr_196_84 ?_ ?_
                          · intro h35
                            refine zw_15 (c := 1) (L' := [(2, 69), (0, a0), (0, a1), (0, a2), (0, i23), (0, i24), (0, (i25 + 1))]) zr_196_112 rfl (by decide) (by omega) rfl ?_
                            refine zw_42 zr_196_115 ?_
                            exact zw_less (L := [(2, 69), (0, a0), (0, a1), (0, a2), (0, i23), (0, i24), (0, (i25 + 1))]) ⟨Or.inr rfl, Or.inr rfl, Or.inr rfl, Or.inr rfl, Or.inr rfl, Or.inr rfl, Or.inr rfl, trivial⟩ (ihlp59_27 (i23) (i24) ((i25 + 1)) m33 hIm33 hFm33   (by omega) (by omega) (by omega) (by omega) (by omega) (by omega)  (by omega))
                          · intro h36
                            refine zw_4 zr_196_87 rfl ?_
                            refine zw_push zr_196_89 ?_
                            refine zw_41_1 zr_196_90 ?_ ?_
                            · intro h37
                              refine zw_4 zr_196_102 rfl ?_
                              refine zw_10 (L' := [(2, 69), (0, a0), (0, a1), (0, a2), (0, i25), (0, i24), (0, i25)]) zr_196_104 (Nat.le_of_ble_eq_true rfl) rfl ?_
                              refine zw_7 zr_196_106 rfl ?_
                              obtain ⟨f38, ef38⟩ : ∃ v, m33 69 24 = v := ⟨_, rfl⟩
                              have bf38 := hIm33.fi (c := 69) (k := 24) rfl
                              rw [ef38] at bf38
                              refine zw_46i zr_196_107 ef38 rfl rfl rfl ?_
                              refine zw_10 (L' := [(2, 69), (0, a0), (0, a1), (0, a2), (0, i25), (0, f38), (0, i25)]) zr_196_110 (Nat.le_of_ble_eq_true rfl) rfl ?_
                              refine zw_15 (c := 1) (L' := [(2, 69), (0, a0), (0, a1), (0, a2), (0, i25), (0, f38), (0, (i25 + 1))]) zr_196_112 rfl (by decide) (by omega) rfl ?_
                              refine zw_42 zr_196_115 ?_
                              exact zw_less (L := [(2, 69), (0, a0), (0, a1), (0, a2), (0, i25), (0, f38), (0, (i25 + 1))]) ⟨Or.inr rfl, Or.inr rfl, Or.inr rfl, Or.inr rfl, Or.inr rfl, Or.inr rfl, Or.inr rfl, trivial⟩ (ihlp59_27 (i25) (f38) ((i25 + 1)) m33 hIm33 hFm33   (by omega) (by omega) (by omega) (by omega) (by omega) (by omega)  (by omega))
                            · intro h39
                              refine zw_7 zr_196_93 rfl ?_
                              obtain ⟨f40, ef40⟩ : ∃ v, m33 69 24 = v := ⟨_, rfl⟩
                              have bf40 := hIm33.fi (c := 69) (k := 24) rfl
                              rw [ef40] at bf40
                              refine zw_46i zr_196_94 ef40 rfl rfl rfl ?_
                              refine zw_4 zr_196_97 rfl ?_
                              refine zw_41_5 zr_196_99 ?_ ?_
                              · intro h41
                                refine zw_15 (c := 1) (L' := [(2, 69), (0, a0), (0, a1), (0, a2), (0, i23), (0, i24), (0, (i25 + 1))]) zr_196_112 rfl (by decide) (by omega) rfl ?_
                                refine zw_42 zr_196_115 ?_
                                exact zw_less (L := [(2, 69), (0, a0), (0, a1), (0, a2), (0, i23), (0, i24), (0, (i25 + 1))]) ⟨Or.inr rfl, Or.inr rfl, Or.inr rfl, Or.inr rfl, Or.inr rfl, Or.inr rfl, Or.inr rfl, trivial⟩ (ihlp59_27 (i23) (i24) ((i25 + 1)) m33 hIm33 hFm33   (by omega) (by omega) (by omega) (by omega) (by omega) (by omega)  (by omega))
                              · intro h42
                                refine zw_4 zr_196_102 rfl ?_
                                refine zw_10 (L' := [(2, 69), (0, a0), (0, a1), (0, a2), (0, i25), (0, i24), (0, i25)]) zr_196_104 (Nat.le_of_ble_eq_true rfl) rfl ?_
                                refine zw_7 zr_196_106 rfl ?_
                                refine zw_46i zr_196_107 ef40 rfl rfl rfl ?_
                                refine zw_10 (L' := [(2, 69), (0, a0), (0, a1), (0, a2), (0, i25), (0, f40), (0, i25)]) zr_196_110 (Nat.le_of_ble_eq_true rfl) rfl ?_
                                refine zw_15 (c := 1) (L' := [(2, 69), (0, a0), (0, a1), (0, a2), (0, i25), (0, f40), (0, (i25 + 1))]) zr_196_112 rfl (by decide) (by omega) rfl ?_
                                refine zw_42 zr_196_115 ?_
                                exact zw_less (L := [(2, 69), (0, a0), (0, a1), (0, a2), (0, i25), (0, f40), (0, (i25 + 1))]) ⟨Or.inr rfl, Or.inr rfl, Or.inr rfl, Or.inr rfl, Or.inr rfl, Or.inr rfl, Or.inr rfl, trivial⟩ (ihlp59_27 (i25) (f40) ((i25 + 1)) m33 hIm33 hFm33   (by omega) (by omega) (by omega) (by omega) (by omega) (by omega)  (by omega))
                        · intro h43
                          refine zw_push zr_196_76 ?_
                          refine zw_42 zr_196_77 ?_
                          refine zw_C zr_196_81 (Or.inl rfl) zm_194 rfl rfl ⟨Nat.le_of_ble_eq_true rfl, Nat.le_of_ble_eq_true rfl, Nat.le_of_ble_eq_true rfl, rfl, by decide⟩ (by omega) (th_194 (d := d - 1) (by omega) hIm26 (a0 := a0) (a1 := i25) (a2 := 1)      (by omega) (by omega) (by omega) ) ?_
                          rintro _ m44 ⟨r45, rfl, hr45a, hr45b, hIm44, gm44⟩
                          have hFm44 : zFr W_196 m0 m44 := hFm26.trans gm44 rfl
                          have km44_70_822 : m44 70 822 = f29 := (gm44 70 822 rfl).trans ef29
                          show zW E (d) 196 84 [(2, 69), (0, a0), (0, a1), (0, a2), (0, i23), (0, i24), (0, i25)] [(0, r45)] m44 Q
                          refine zw_40_1 zr_196_84 ?_ ?_
                          · intro h46
                            refine zw_15 (c := 1) (L' := [(2, 69), (0, a0), (0, a1), (0, a2), (0, i23), (0, i24), (0, (i25 + 1))]) zr_196_112 rfl (by decide) (by omega) rfl ?_
                            refine zw_42 zr_196_115 ?_
                            exact zw_less (L := [(2, 69), (0, a0), (0, a1), (0, a2), (0, i23), (0, i24), (0, (i25 + 1))]) ⟨Or.inr rfl, Or.inr rfl, Or.inr rfl, Or.inr rfl, Or.inr rfl, Or.inr rfl, Or.inr rfl, trivial⟩ (ihlp59_27 (i23) (i24) ((i25 + 1)) m44 hIm44 hFm44   (by omega) (by omega) (by omega) (by omega) (by omega) (by omega)  (by omega))
                          · intro h47
                            refine zw_4 zr_196_87 rfl ?_
                            refine zw_push zr_196_89 ?_
                            refine zw_41_1 zr_196_90 ?_ ?_
                            · intro h48
                              refine zw_4 zr_196_102 rfl ?_
                              refine zw_10 (L' := [(2, 69), (0, a0), (0, a1), (0, a2), (0, i25), (0, i24), (0, i25)]) zr_196_104 (Nat.le_of_ble_eq_true rfl) rfl ?_
                              refine zw_7 zr_196_106 rfl ?_
                              obtain ⟨f49, ef49⟩ : ∃ v, m44 69 24 = v := ⟨_, rfl⟩
                              have bf49 := hIm44.fi (c := 69) (k := 24) rfl
                              rw [ef49] at bf49
                              refine zw_46i zr_196_107 ef49 rfl rfl rfl ?_
                              refine zw_10 (L' := [(2, 69), (0, a0), (0, a1), (0, a2), (0, i25), (0, f49), (0, i25)]) zr_196_110 (Nat.le_of_ble_eq_true rfl) rfl ?_
                              refine zw_15 (c := 1) (L' := [(2, 69), (0, a0), (0, a1), (0, a2), (0, i25), (0, f49), (0, (i25 + 1))]) zr_196_112 rfl (by decide) (by omega) rfl ?_
                              refine zw_42 zr_196_115 ?_
                              exact zw_less (L := [(2, 69), (0, a0), (0, a1), (0, a2), (0, i25), (0, f49), (0, (i25 + 1))]) ⟨Or.inr rfl, Or.inr rfl, Or.inr rfl, Or.inr rfl, Or.inr rfl, Or.inr rfl, Or.inr rfl, trivial⟩ (ihlp59_27 (i25) (f49) ((i25 + 1)) m44 hIm44 hFm44   (by omega) (by omega) (by omega) (by omega) (by omega) (by omega)  (by omega))
                            · intro h50
                              refine zw_7 zr_196_93 rfl ?_
                              obtain ⟨f51, ef51⟩ : ∃ v, m44 69 24 = v := ⟨_, rfl⟩
                              have bf51 := hIm44.fi (c := 69) (k := 24) rfl
                              rw [ef51] at bf51
                              refine zw_46i zr_196_94 ef51 rfl rfl rfl ?_
                              refine zw_4 zr_196_97 rfl ?_
                              refine zw_41_5 zr_196_99 ?_ ?_
                              · intro h52
                                refine zw_15 (c := 1) (L' := [(2, 69), (0, a0), (0, a1), (0, a2), (0, i23), (0, i24), (0, (i25 + 1))]) zr_196_112 rfl (by decide) (by omega) rfl ?_
                                refine zw_42 zr_196_115 ?_
                                exact zw_less (L := [(2, 69), (0, a0), (0, a1), (0, a2), (0, i23), (0, i24), (0, (i25 + 1))]) ⟨Or.inr rfl, Or.inr rfl, Or.inr rfl, Or.inr rfl, Or.inr rfl, Or.inr rfl, Or.inr rfl, trivial⟩ (ihlp59_27 (i23) (i24) ((i25 + 1)) m44 hIm44 hFm44   (by omega) (by omega) (by omega) (by omega) (by omega) (by omega)  (by omega))
                              · intro h53
                                refine zw_4 zr_196_102 rfl ?_
                                refine zw_10 (L' := [(2, 69), (0, a0), (0, a1), (0, a2), (0, i25), (0, i24), (0, i25)]) zr_196_104 (Nat.le_of_ble_eq_true rfl) rfl ?_
                                refine zw_7 zr_196_106 rfl ?_
                                refine zw_46i zr_196_107 ef51 rfl rfl rfl ?_
                                refine zw_10 (L' := [(2, 69), (0, a0), (0, a1), (0, a2), (0, i25), (0, f51), (0, i25)]) zr_196_110 (Nat.le_of_ble_eq_true rfl) rfl ?_
                                refine zw_15 (c := 1) (L' := [(2, 69), (0, a0), (0, a1), (0, a2), (0, i25), (0, f51), (0, (i25 + 1))]) zr_196_112 rfl (by decide) (by omega) rfl ?_
                                refine zw_42 zr_196_115 ?_
                                exact zw_less (L := [(2, 69), (0, a0), (0, a1), (0, a2), (0, i25), (0, f51), (0, (i25 + 1))]) ⟨Or.inr rfl, Or.inr rfl, Or.inr rfl, Or.inr rfl, Or.inr rfl, Or.inr rfl, Or.inr rfl, trivial⟩ (ihlp59_27 (i25) (f51) ((i25 + 1)) m44 hIm44 hFm44   (by omega) (by omega) (by omega) (by omega) (by omega) (by omega)  (by omega))
                  exact lp59_27 _ ((-1)) (0) (0) m0 hI0 hF0   (by omega) (by omega) (by omega) (by omega) (by omega) (by omega)  (Nat.lt_succ_self _)
                · intro h54
                  refine zw_7 zr_196_44 rfl ?_
                  refine zw_3 zr_196_45 rfl ?_
                  refine zw_C zr_196_46 (Or.inl rfl) zm_195 rfl rfl ⟨Nat.le_of_ble_eq_true rfl, Nat.le_of_ble_eq_true rfl, Nat.le_of_ble_eq_true rfl, rfl, by decide⟩ (by omega) (th_195 (d := d - 1) (by omega) hI0 (a0 := a0)   (F70 := m0 70)  rfl (by omega) ) ?_
                  rintro _ m55 ⟨r56, rfl, hr56a, hr56b, hIm55, gm55⟩
                  have hFm55 : zFr W_196 m0 m55 := hF0.trans gm55 rfl
                  show zW E (d) 196 49 [(2, 69), (0, a0), (0, a1), (0, a2), (9, 0), (9, 0), (9, 0)] [(0, r56)] m55 Q
                  refine zw_R zr_196_49 (by decide) zm_196 (v := (0, r56)) rfl ?_
                  rw [← hQ]; exact ⟨_, rfl, by omega, by omega, hIm55, hFm55⟩
              · intro h57
                refine zw_3 zr_196_24 rfl ?_
                refine zw_36 zr_196_25 ?_
                refine zw_push zr_196_26 ?_
                refine zw_push zr_196_27 ?_
                refine zw_C zr_196_30 (Or.inr rfl) zm_140 rfl rfl ⟨Nat.le_of_ble_eq_true rfl, Nat.le_of_ble_eq_true rfl, Nat.le_of_ble_eq_true rfl, rfl, by decide⟩ (by omega) (P := (fun v m' => zW E (d) 196 33 [(2, 69), (0, a0), (0, a1), (0, a2), (9, 0), (9, 0), (9, 0)] (if v.1 = 9 then [] else v :: []) m' Q)) ?_ (fun _ _ h => h)
                generalize hQ1 : (fun v m' => zW E (d) 196 33 [(2, 69), (0, a0), (0, a1), (0, a2), (9, 0), (9, 0), (9, 0)] (if v.1 = 9 then [] else v :: []) m' Q) = Q1
                show zW E (d - 1) 140 0 [(1, a2), (9, 0), (1, 1), (9, 0), (1, 9), (9, 0)] [] m0 Q1
                refine zw_5 zr_140_0 rfl ?_
                refine zw_5 zr_140_1 rfl ?_
                refine zw_39_0 zr_140_2 zr_140_3 ?_ ?_
                · intro h58
                  refine zw_push zr_140_17 ?_
                  refine zw_R zr_140_18 (by decide) zm_140 (v := (0, 0)) (zRetB (by omega)) ?_
                  rw [← hQ1]
                  show zW E (d) 196 33 [(2, 69), (0, a0), (0, a1), (0, a2), (9, 0), (9, 0), (9, 0)] [(0, 0)] m0 Q
                  refine zw_40_4 zr_196_33 ?_ ?_
                  · intro h59; omega
                  · intro h60
                    refine zw_push zr_196_36 ?_
                    refine zw_R zr_196_38 (by decide) zm_196 (v := (0, (-2))) rfl ?_
                    rw [← hQ]; exact ⟨_, rfl, by omega, by omega, hI0, hF0⟩
                · intro h61
                  refine zw_5 zr_140_6 rfl ?_
                  refine zw_6 zr_140_7 rfl ?_
                  refine zw_39_2 zr_140_9 zr_140_10 ?_ ?_
                  · intro h62
                    refine zw_push zr_140_17 ?_
                    refine zw_R zr_140_18 (by decide) zm_140 (v := (0, 0)) (zRetB (by omega)) ?_
                    rw [← hQ1]
                    show zW E (d) 196 33 [(2, 69), (0, a0), (0, a1), (0, a2), (9, 0), (9, 0), (9, 0)] [(0, 0)] m0 Q
                    refine zw_40_4 zr_196_33 ?_ ?_
                    · intro h63; omega
                    · intro h64
                      refine zw_push zr_196_36 ?_
                      refine zw_R zr_196_38 (by decide) zm_196 (v := (0, (-2))) rfl ?_
                      rw [← hQ]; exact ⟨_, rfl, by omega, by omega, hI0, hF0⟩
                  · intro h65
                    refine zw_push zr_140_13 ?_
                    refine zw_42 zr_140_14 ?_
                    refine zw_R zr_140_18 (by decide) zm_140 (v := (0, 1)) (zRetB (by omega)) ?_
                    rw [← hQ1]
                    show zW E (d) 196 33 [(2, 69), (0, a0), (0, a1), (0, a2), (9, 0), (9, 0), (9, 0)] [(0, 1)] m0 Q
                    refine zw_40_4 zr_196_33 ?_ ?_
                    · intro h66
                      refine zw_3 zr_196_39 rfl ?_
                      refine zw_push zr_196_40 ?_
                      refine zw_41_4 zr_196_41 ?_ ?_
                      · intro h67
                        refine zw_push zr_196_50 ?_
                        refine zw_10 (L' := [(2, 69), (0, a0), (0, a1), (0, a2), (0, (-1)), (9, 0), (9, 0)]) zr_196_51 (Nat.le_of_ble_eq_true rfl) rfl ?_
                        refine zw_push zr_196_53 ?_
                        refine zw_10 (L' := [(2, 69), (0, a0), (0, a1), (0, a2), (0, (-1)), (0, 0), (9, 0)]) zr_196_54 (Nat.le_of_ble_eq_true rfl) rfl ?_
                        refine zw_push zr_196_56 ?_
                        refine zw_10 (L' := [(2, 69), (0, a0), (0, a1), (0, a2), (0, (-1)), (0, 0), (0, 0)]) zr_196_57 (Nat.le_of_ble_eq_true rfl) rfl ?_
                        have lp59_72 : ∀ (nlp59_72 : Nat) (i68 i69 i70 : Int) (m71 : zM), zInv m71 → zFr W_196 m0 m71 → (-1) ≤ i68 → i68 ≤ 9 → (-2147483648) ≤ i69 → i69 ≤ 2147483647 → 0 ≤ i70 → i70 ≤ 10 → (10 - i70).toNat < nlp59_72 → zW E (d) 196 59 [(2, 69), (0, a0), (0, a1), (0, a2), (0, i68), (0, i69), (0, i70)] [] m71 Q := by
                          intro nlp59_72
                          induction nlp59_72 with
                          | zero =>
                            intros
                            exact absurd (by assumption : _ < 0) (Nat.not_lt_zero _)
                          | succ nlp59_72 ihlp59_72 =>
                            intro i68 i69 i70 m71 hIm71 hFm71 li68 ui68 li69 ui69 li70 ui70 hmlp59_72
                            refine zw_4 zr_196_59 rfl ?_
                            refine zw_7 zr_196_61 rfl ?_
                            refine zw_C zr_196_62 (Or.inl rfl) zm_141 rfl rfl ⟨Nat.le_of_ble_eq_true rfl, Nat.le_of_ble_eq_true rfl, Nat.le_of_ble_eq_true rfl, rfl, by decide⟩ (by omega) (P := (fun v m' => zW E (d) 196 65 [(2, 69), (0, a0), (0, a1), (0, a2), (0, i68), (0, i69), (0, i70)] (if v.1 = 9 then [(0, i70)] else v :: [(0, i70)]) m' Q)) ?_ (fun _ _ h => h)
                            generalize hQ1 : (fun v m' => zW E (d) 196 65 [(2, 69), (0, a0), (0, a1), (0, a2), (0, i68), (0, i69), (0, i70)] (if v.1 = 9 then [(0, i70)] else v :: [(0, i70)]) m' Q) = Q1
                            show zW E (d - 1) 141 0 [(2, 69)] [] m71 Q1
                            refine zw_7 zr_141_0 rfl ?_
                            refine zw_46r (s := 70) zr_141_1 rfl rfl rfl rfl ?_
                            refine zw_push zr_141_4 ?_
                            obtain ⟨f74, ef74⟩ : ∃ v, m71 70 822 = v := ⟨_, rfl⟩
                            have bf74 : 0 ≤ m71 70 822 ∧ m71 70 822 ≤ 10 := ib_70_players hIm71 (by omega)
                            rw [ef74] at bf74
                            refine zw_48k (c := 70) (len := 826) zr_141_7 rfl rfl (by omega) (by omega) (show (822 : Int).toNat = 822 by omega) ef74 ?_
                            refine zw_R zr_141_8 (by decide) zm_141 (v := (0, f74)) rfl ?_
                            rw [← hQ1]
                            show zW E (d) 196 65 [(2, 69), (0, a0), (0, a1), (0, a2), (0, i68), (0, i69), (0, i70)] [(0, f74), (0, i70)] m71 Q
                            refine zw_41_3 zr_196_65 ?_ ?_
                            · intro h75
                              refine zw_4 zr_196_118 rfl ?_
                              refine zw_R zr_196_120 (by decide) zm_196 (v := (0, i68)) rfl ?_
                              rw [← hQ]; exact ⟨_, rfl, by omega, by omega, hIm71, hFm71⟩
                            · intro h76
                              refine zw_7 zr_196_68 rfl ?_
                              refine zw_3 zr_196_69 rfl ?_
                              refine zw_4 zr_196_70 rfl ?_
                              refine zw_3 zr_196_72 rfl ?_
                              refine zw_40_4 zr_196_73 ?_ ?_
                              · intro h77
                                refine zw_3 zr_196_80 rfl ?_
                                refine zw_C zr_196_81 (Or.inl rfl) zm_194 rfl rfl ⟨Nat.le_of_ble_eq_true rfl, Nat.le_of_ble_eq_true rfl, Nat.le_of_ble_eq_true rfl, rfl, by decide⟩ (by omega) (th_194 (d := d - 1) (by omega) hIm71 (a0 := a0) (a1 := i70) (a2 := a2)      (by omega) (by omega) (by omega) ) ?_
                                rintro _ m78 ⟨r79, rfl, hr79a, hr79b, hIm78, gm78⟩
                                have hFm78 : zFr W_196 m0 m78 := hFm71.trans gm78 rfl
                                have km78_70_822 : m78 70 822 = f74 := (gm78 70 822 rfl).trans ef74
                                show zW E (d) 196 84 [(2, 69), (0, a0), (0, a1), (0, a2), (0, i68), (0, i69), (0, i70)] [(0, r79)] m78 Q
                                refine zw_40_1 zr_196_84 ?_ ?_
                                · intro h80
                                  refine zw_15 (c := 1) (L' := [(2, 69), (0, a0), (0, a1), (0, a2), (0, i68), (0, i69), (0, (i70 + 1))]) zr_196_112 rfl (by decide) (by omega) rfl ?_
                                  refine zw_42 zr_196_115 ?_
                                  exact zw_less (L := [(2, 69), (0, a0), (0, a1), (0, a2), (0, i68), (0, i69), (0, (i70 + 1))]) ⟨Or.inr rfl, Or.inr rfl, Or.inr rfl, Or.inr rfl, Or.inr rfl, Or.inr rfl, Or.inr rfl, trivial⟩ (ihlp59_72 (i68) (i69) ((i70 + 1)) m78 hIm78 hFm78   (by omega) (by omega) (by omega) (by omega) (by omega) (by omega)  (by omega))
                                · intro h81
                                  refine zw_4 zr_196_87 rfl ?_
                                  refine zw_push zr_196_89 ?_
                                  refine zw_41_1 zr_196_90 ?_ ?_
                                  · intro h82
                                    refine zw_4 zr_196_102 rfl ?_
                                    refine zw_10 (L' := [(2, 69), (0, a0), (0, a1), (0, a2), (0, i70), (0, i69), (0, i70)]) zr_196_104 (Nat.le_of_ble_eq_true rfl) rfl ?_
                                    refine zw_7 zr_196_106 rfl ?_
                                    obtain ⟨f83, ef83⟩ : ∃ v, m78 69 24 = v := ⟨_, rfl⟩
                                    have bf83 := hIm78.fi (c := 69) (k := 24) rfl
                                    rw [ef83] at bf83
                                    refine zw_46i zr_196_107 ef83 rfl rfl rfl ?_
                                    refine zw_10 (L' := [(2, 69), (0, a0), (0, a1), (0, a2), (0, i70), (0, f83), (0, i70)]) zr_196_110 (Nat.le_of_ble_eq_true rfl) rfl ?_
                                    refine zw_15 (c := 1) (L' := [(2, 69), (0, a0), (0, a1), (0, a2), (0, i70), (0, f83), (0, (i70 + 1))]) zr_196_112 rfl (by decide) (by omega) rfl ?_
                                    refine zw_42 zr_196_115 ?_
                                    exact zw_less (L := [(2, 69), (0, a0), (0, a1), (0, a2), (0, i70), (0, f83), (0, (i70 + 1))]) ⟨Or.inr rfl, Or.inr rfl, Or.inr rfl, Or.inr rfl, Or.inr rfl, Or.inr rfl, Or.inr rfl, trivial⟩ (ihlp59_72 (i70) (f83) ((i70 + 1)) m78 hIm78 hFm78   (by omega) (by omega) (by omega) (by omega) (by omega) (by omega)  (by omega))
                                  · intro h84
                                    refine zw_7 zr_196_93 rfl ?_
                                    obtain ⟨f85, ef85⟩ : ∃ v, m78 69 24 = v := ⟨_, rfl⟩
                                    have bf85 := hIm78.fi (c := 69) (k := 24) rfl
                                    rw [ef85] at bf85
                                    refine zw_46i zr_196_94 ef85 rfl rfl rfl ?_
                                    refine zw_4 zr_196_97 rfl ?_
                                    refine zw_41_5 zr_196_99 ?_ ?_
                                    · intro h86
                                      refine zw_15 (c := 1) (L' := [(2, 69), (0, a0), (0, a1), (0, a2), (0, i68), (0, i69), (0, (i70 + 1))]) zr_196_112 rfl (by decide) (by omega) rfl ?_
                                      refine zw_42 zr_196_115 ?_
                                      exact zw_less (L := [(2, 69), (0, a0), (0, a1), (0, a2), (0, i68), (0, i69), (0, (i70 + 1))]) ⟨Or.inr rfl, Or.inr rfl, Or.inr rfl, Or.inr rfl, Or.inr rfl, Or.inr rfl, Or.inr rfl, trivial⟩ (ihlp59_72 (i68) (i69) ((i70 + 1)) m78 hIm78 hFm78   (by omega) (by omega) (by omega) (by omega) (by omega) (by omega)  (by omega))
                                    · intro h87
                                      refine zw_4 zr_196_102 rfl ?_
                                      refine zw_10 (L' := [(2, 69), (0, a0), (0, a1), (0, a2), (0, i70), (0, i69), (0, i70)]) zr_196_104 (Nat.le_of_ble_eq_true rfl) rfl ?_
                                      refine zw_7 zr_196_106 rfl ?_
                                      refine zw_46i zr_196_107 ef85 rfl rfl rfl ?_
                                      refine zw_10 (L' := [(2, 69), (0, a0), (0, a1), (0, a2), (0, i70), (0, f85), (0, i70)]) zr_196_110 (Nat.le_of_ble_eq_true rfl) rfl ?_
                                      refine zw_15 (c := 1) (L' := [(2, 69), (0, a0), (0, a1), (0, a2), (0, i70), (0, f85), (0, (i70 + 1))]) zr_196_112 rfl (by decide) (by omega) rfl ?_
                                      refine zw_42 zr_196_115 ?_
                                      exact zw_less (L := [(2, 69), (0, a0), (0, a1), (0, a2), (0, i70), (0, f85), (0, (i70 + 1))]) ⟨Or.inr rfl, Or.inr rfl, Or.inr rfl, Or.inr rfl, Or.inr rfl, Or.inr rfl, Or.inr rfl, trivial⟩ (ihlp59_72 (i70) (f85) ((i70 + 1)) m78 hIm78 hFm78   (by omega) (by omega) (by omega) (by omega) (by omega) (by omega)  (by omega))
                              · intro h88; omega
                        exact lp59_72 _ ((-1)) (0) (0) m0 hI0 hF0   (by omega) (by omega) (by omega) (by omega) (by omega) (by omega)  (Nat.lt_succ_self _)
                      · intro h89; omega
                    · intro h90; omega

abbrev W_4_65 : List (Nat × Nat) := [(65, 1000)]
set_option maxHeartbeats 8000000 in
theorem th_4_65 {E : zE} {d : Nat} {m0 : zM} {a0 : Int} (hd : 1 ≤ d) (hI0 : zInv m0) (ha0 : 0 ≤ a0 ∧ a0 ≤ 0) : zC E d 4 [(2, 65), (0, a0)] m0 (fun v m' => v = (9, 0) ∧ zInv m' ∧ zFr W_4_65 m0 m') := by
  have hF0 : zFr W_4_65 m0 m0 := zFr.rfl
  generalize hQ : (fun (v : zV) (m' : zM) => v = (9, 0) ∧ zInv m' ∧ zFr W_4_65 m0 m') = Q
  show zW E d 4 0 [(2, 65), (0, a0), (9, 0), (9, 0)] [] m0 Q
  refine zw_push zr_4_0 ?_
  refine zw_9 (L' := [(2, 65), (0, a0), (0, 0), (9, 0)]) zr_4_1 (Nat.le_of_ble_eq_true rfl) rfl ?_
  refine zw_7 zr_4_2 rfl ?_
  refine zw_101 (c := 65) (len := 100) zr_4_3 rfl rfl (by decide) ?_
  refine zw_9 (L' := [(2, 65), (0, a0), (0, 0), (0, 100)]) zr_4_4 (Nat.le_of_ble_eq_true rfl) rfl ?_
  have lp5_3 : ∀ (nlp5_3 : Nat) (i1 : Int) (m2 : zM), zInv m2 → zFr W_4_65 m0 m2 → 0 ≤ i1 → i1 ≤ 100 → (100 - i1).toNat < nlp5_3 → zW E (d) 4 5 [(2, 65), (0, a0), (0, i1), (0, 100)] [] m2 Q := by
    intro nlp5_3
    induction nlp5_3 with
    | zero =>
      intros
      exact absurd (by assumption : _ < 0) (Nat.not_lt_zero _)
    | succ nlp5_3 ihlp5_3 =>
      intro i1 m2 hIm2 hFm2 li1 ui1 hmlp5_3
      refine zw_3 zr_4_5 rfl ?_
      refine zw_3 zr_4_6 rfl ?_
      refine zw_41_3 zr_4_7 ?_ ?_
      · intro h5
        refine zw_R zr_4_20 (by decide) zm_4 (v := (9, 0)) rfl ?_
        rw [← hQ]; exact ⟨rfl, hIm2, hFm2⟩
      · intro h6
        refine zw_7 zr_4_10 rfl ?_
        refine zw_3 zr_4_11 rfl ?_
        refine zw_3 zr_4_12 rfl ?_
        refine zw_49 (c := 65) (len := 100) zr_4_13 rfl rfl (by omega) (by omega) ?_
        intro m7 em7
        have hIm7 : zInv m7 := by rw [em7]; exact hIm2.any (by omega) rfl (by decide) (by decide)
        have hFm7 : zFr W_4_65 m0 m7 := by rw [em7]; exact hFm2.any rfl
        clear em7
        refine zw_15 (c := 1) (L' := [(2, 65), (0, a0), (0, (i1 + 1)), (0, 100)]) zr_4_14 rfl (by decide) (by omega) rfl ?_
        refine zw_42 zr_4_17 ?_
        exact zw_less (L := [(2, 65), (0, a0), (0, (i1 + 1)), (0, 100)]) ⟨Or.inr rfl, Or.inr rfl, Or.inr rfl, Or.inr rfl, trivial⟩ (ihlp5_3 ((i1 + 1)) m7 hIm7 hFm7   (by omega) (by omega)  (by omega))
  exact lp5_3 _ (0) m0 hI0 hF0   (by omega) (by omega)  (Nat.lt_succ_self _)

abbrev W_90 : List (Nat × Nat) := [(65, 1000)]
set_option maxHeartbeats 8000000 in
theorem th_90 {E : zE} {d : Nat} {m0 : zM} (hd : 2 ≤ d) (hI0 : zInv m0) : zC E d 90 [(2, 63)] m0 (fun v m' => v = (9, 0) ∧ zInv m' ∧ zFr W_90 m0 m') := by
  have hF0 : zFr W_90 m0 m0 := zFr.rfl
  generalize hQ : (fun (v : zV) (m' : zM) => v = (9, 0) ∧ zInv m' ∧ zFr W_90 m0 m') = Q
  show zW E d 90 0 [(2, 63), (9, 0), (9, 0), (9, 0)] [] m0 Q
  refine zw_7 zr_90_0 rfl ?_
  refine zw_46r (s := 65) zr_90_1 rfl rfl rfl rfl ?_
  refine zw_push zr_90_4 ?_
  refine zw_C zr_90_5 (Or.inr rfl) zm_4 rfl rfl ⟨Nat.le_of_ble_eq_true rfl, Nat.le_of_ble_eq_true rfl, Nat.le_of_ble_eq_true rfl, rfl, by decide⟩ (by omega) (th_4_65 (d := d - 1) (by omega) hI0 (a0 := 0)      (by omega) ) ?_
  rintro _ m1 ⟨rfl, hIm1, gm1⟩
  have hFm1 : zFr W_90 m0 m1 := hF0.trans gm1 rfl
  show zW E (d) 90 8 [(2, 63), (9, 0), (9, 0), (9, 0)] [] m1 Q
  refine zw_push zr_90_8 ?_
  refine zw_9 (L' := [(2, 63), (0, 0), (9, 0), (9, 0)]) zr_90_9 (Nat.le_of_ble_eq_true rfl) rfl ?_
  have lp10_4 : ∀ (nlp10_4 : Nat) (i2 : Int) (m3 : zM), zInv m3 → zFr W_90 m0 m3 → 0 ≤ i2 → i2 ≤ 60 → (60 - i2).toNat < nlp10_4 → zW E (d) 90 10 [(2, 63), (0, i2), (9, 0), (9, 0)] [] m3 Q := by
    intro nlp10_4
    induction nlp10_4 with
    | zero =>
      intros
      exact absurd (by assumption : _ < 0) (Nat.not_lt_zero _)
    | succ nlp10_4 ihlp10_4 =>
      intro i2 m3 hIm3 hFm3 li2 ui2 hmlp10_4
      refine zw_3 zr_90_10 rfl ?_
      refine zw_7 zr_90_11 rfl ?_
      refine zw_46r (s := 1) zr_90_12 rfl rfl rfl rfl ?_
      obtain ⟨f6, ef6⟩ : ∃ v, m3 1 1 = v := ⟨_, rfl⟩
      have bf6 := ib_1_1 hIm3
      rw [ef6] at bf6
      refine zw_46i zr_90_15 ef6 rfl rfl rfl ?_
      refine zw_41_3 zr_90_18 ?_ ?_
      · intro h7
        refine zw_R zr_90_108 (by decide) zm_90 (v := (9, 0)) rfl ?_
        rw [← hQ]; exact ⟨rfl, hIm3, hFm3⟩
      · intro h8
        refine zw_7 zr_90_21 rfl ?_
        refine zw_46r (s := 1) zr_90_22 rfl rfl rfl rfl ?_
        refine zw_46r (s := 6) zr_90_25 rfl rfl rfl rfl ?_
        refine zw_3 zr_90_28 rfl ?_
        refine zw_48 (c := 6) (len := 60) zr_90_29 rfl rfl (by omega) (by omega) ?_
        intro x9 ex9
        have bx9 := ib_6 hIm3 (k := (i2).toNat) (by omega)
        rw [← ex9] at bx9
        clear ex9
        refine zw_9 (L' := [(2, 63), (0, i2), (0, x9), (9, 0)]) zr_90_30 (Nat.le_of_ble_eq_true rfl) rfl ?_
        refine zw_7 zr_90_31 rfl ?_
        refine zw_46r (s := 1) zr_90_32 rfl rfl rfl rfl ?_
        refine zw_46r (s := 7) zr_90_35 rfl rfl rfl rfl ?_
        refine zw_3 zr_90_38 rfl ?_
        refine zw_48 (c := 7) (len := 60) zr_90_39 rfl rfl (by omega) (by omega) ?_
        intro x10 ex10
        have bx10 := ib_7 hIm3 (k := (i2).toNat) (by omega)
        rw [← ex10] at bx10
        clear ex10
        refine zw_9 (L' := [(2, 63), (0, i2), (0, x9), (0, x10)]) zr_90_40 (Nat.le_of_ble_eq_true rfl) rfl ?_
        refine zw_7 zr_90_41 rfl ?_
        refine zw_46r (s := 1) zr_90_42 rfl rfl rfl rfl ?_
        refine zw_3 zr_90_45 rfl ?_
        refine zw_C zr_90_46 (Or.inl rfl) zm_18 rfl rfl ⟨Nat.le_of_ble_eq_true rfl, Nat.le_of_ble_eq_true rfl, Nat.le_of_ble_eq_true rfl, rfl, by decide⟩ (by omega) (P := (fun v m' => zW E (d) 90 49 [(2, 63), (0, i2), (0, x9), (0, x10)] (if v.1 = 9 then [] else v :: []) m' Q)) ?_ (fun _ _ h => h)
        generalize hQ1 : (fun v m' => zW E (d) 90 49 [(2, 63), (0, i2), (0, x9), (0, x10)] (if v.1 = 9 then [] else v :: []) m' Q) = Q1
        show zW E (d - 1) 18 0 [(2, 1), (0, i2)] [] m3 Q1
        refine zw_7 zr_18_0 rfl ?_
        obtain ⟨f11, ef11⟩ : ∃ v, m3 1 2 = v := ⟨_, rfl⟩
        have bf11 := ib_1_2 hIm3
        rw [ef11] at bf11
        refine zw_46l zr_18_1 ef11 rfl rfl rfl ?_
        refine zw_3 zr_18_4 rfl ?_
        refine zw_34p zr_18_5 (by omega) (by omega) ?_
        intro x12 hx12c hx12a hx12b
        refine zw_push zr_18_6 ?_
        refine zw_30o zr_18_7 (by omega) ?_
        refine zw_push zr_18_8 ?_
        refine zw_39_1 zr_18_9 zr_18_10 ?_ ?_
        · intro h13
          refine zw_push zr_18_17 ?_
          refine zw_R zr_18_18 (by decide) zm_18 (v := (0, 0)) (zRetB (by omega)) ?_
          rw [← hQ1]
          show zW E (d) 90 49 [(2, 63), (0, i2), (0, x9), (0, x10)] [(0, 0)] m3 Q
          refine zw_40_4 zr_90_49 ?_ ?_
          · intro h14; omega
          · intro h15
            refine zw_7 zr_90_52 rfl ?_
            refine zw_46r (s := 1) zr_90_53 rfl rfl rfl rfl ?_
            refine zw_46r (s := 8) zr_90_56 rfl rfl rfl rfl ?_
            refine zw_3 zr_90_59 rfl ?_
            refine zw_48 (c := 8) (len := 60) zr_90_60 rfl rfl (by omega) (by omega) ?_
            intro x16 ex16
            have bx16 := ib_8 hIm3 (k := (i2).toNat) (by omega)
            rw [← ex16] at bx16
            refine zw_push zr_90_61 ?_
            refine zw_41_1 zr_90_62 ?_ ?_
            · intro h17
              refine zw_15 (c := 1) (L' := [(2, 63), (0, (i2 + 1)), (0, x9), (0, x10)]) zr_90_102 rfl (by decide) (by omega) rfl ?_
              refine zw_42 zr_90_105 ?_
              exact zw_less (L := [(2, 63), (0, (i2 + 1)), (9, 0), (9, 0)]) ⟨Or.inr rfl, Or.inr rfl, Or.inl rfl, Or.inl rfl, trivial⟩ (ihlp10_4 ((i2 + 1)) m3 hIm3 hFm3   (by omega) (by omega)  (by omega))
            · intro h18
              refine zw_7 zr_90_65 rfl ?_
              refine zw_46r (s := 65) zr_90_66 rfl rfl rfl rfl ?_
              refine zw_7 zr_90_69 rfl ?_
              refine zw_46r (s := 1) zr_90_70 rfl rfl rfl rfl ?_
              refine zw_46r (s := 8) zr_90_73 rfl rfl rfl rfl ?_
              refine zw_3 zr_90_76 rfl ?_
              refine zw_48k (c := 8) (len := 60) zr_90_77 rfl rfl (by omega) (by omega) rfl ex16.symm ?_
              refine zw_push zr_90_78 ?_
              refine zw_41_4 zr_90_79 ?_ ?_
              · intro h19
                refine zw_3 zr_90_91 rfl ?_
                refine zw_push zr_90_92 ?_
                refine zw_18 zr_90_94 (by omega) ?_
                refine zw_3 zr_90_95 rfl ?_
                refine zw_16 zr_90_96 (by omega) ?_
                refine zw_45 zr_90_97 ⟨rfl, rfl⟩ ?_
                refine zw_48 (c := 65) (len := 100) zr_90_98 rfl rfl (by omega) (by omega) ?_
                intro x20 ex20
                have bx20 := hIm3.ra (c := 65) (len := 100) (k := (((x10 * 10) + x9)).toNat) rfl (by omega)
                rw [← ex20] at bx20
                clear ex20
                refine zw_push zr_90_99 ?_
                refine zw_16h zr_90_100 ?_
                intro x21 hx21a hx21b
                refine zw_49 (c := 65) (len := 100) zr_90_101 rfl rfl (by omega) (by omega) ?_
                intro m22 em22
                have hIm22 : zInv m22 := by rw [em22]; exact hIm3.any (by omega) rfl (by decide) (by decide)
                have hFm22 : zFr W_90 m0 m22 := by rw [em22]; exact hFm3.any rfl
                have km22_1_1 : m22 1 1 = f6 := by rw [em22, zUp_ne (by omega)]; exact ef6
                have km22_1_2 : m22 1 2 = f11 := by rw [em22, zUp_ne (by omega)]; exact ef11
                clear em22
                refine zw_15 (c := 1) (L' := [(2, 63), (0, (i2 + 1)), (0, x9), (0, x10)]) zr_90_102 rfl (by decide) (by omega) rfl ?_
                refine zw_42 zr_90_105 ?_
                exact zw_less (L := [(2, 63), (0, (i2 + 1)), (9, 0), (9, 0)]) ⟨Or.inr rfl, Or.inr rfl, Or.inl rfl, Or.inl rfl, trivial⟩ (ihlp10_4 ((i2 + 1)) m22 hIm22 hFm22   (by omega) (by omega)  (by omega))
              · intro h23
                refine zw_3 zr_90_82 rfl ?_
                refine zw_push zr_90_83 ?_
                refine zw_18 zr_90_85 (by omega) ?_
                refine zw_3 zr_90_86 rfl ?_
                refine zw_16 zr_90_87 (by omega) ?_
                refine zw_42 zr_90_88 ?_
                refine zw_45 zr_90_97 ⟨rfl, rfl⟩ ?_
                refine zw_48 (c := 65) (len := 100) zr_90_98 rfl rfl (by omega) (by omega) ?_
                intro x24 ex24
                have bx24 := hIm3.ra (c := 65) (len := 100) (k := (((x9 * 10) + x10)).toNat) rfl (by omega)
                rw [← ex24] at bx24
                clear ex24
                refine zw_push zr_90_99 ?_
                refine zw_16h zr_90_100 ?_
                intro x25 hx25a hx25b
                refine zw_49 (c := 65) (len := 100) zr_90_101 rfl rfl (by omega) (by omega) ?_
                intro m26 em26
                have hIm26 : zInv m26 := by rw [em26]; exact hIm3.any (by omega) rfl (by decide) (by decide)
                have hFm26 : zFr W_90 m0 m26 := by rw [em26]; exact hFm3.any rfl
                have km26_1_1 : m26 1 1 = f6 := by rw [em26, zUp_ne (by omega)]; exact ef6
                have km26_1_2 : m26 1 2 = f11 := by rw [em26, zUp_ne (by omega)]; exact ef11
                clear em26
                refine zw_15 (c := 1) (L' := [(2, 63), (0, (i2 + 1)), (0, x9), (0, x10)]) zr_90_102 rfl (by decide) (by omega) rfl ?_
                refine zw_42 zr_90_105 ?_
                exact zw_less (L := [(2, 63), (0, (i2 + 1)), (9, 0), (9, 0)]) ⟨Or.inr rfl, Or.inr rfl, Or.inl rfl, Or.inl rfl, trivial⟩ (ihlp10_4 ((i2 + 1)) m26 hIm26 hFm26   (by omega) (by omega)  (by omega))
        · intro h27
          refine zw_push zr_18_13 ?_
          refine zw_42 zr_18_14 ?_
          refine zw_R zr_18_18 (by decide) zm_18 (v := (0, 1)) (zRetB (by omega)) ?_
          rw [← hQ1]
          show zW E (d) 90 49 [(2, 63), (0, i2), (0, x9), (0, x10)] [(0, 1)] m3 Q
          refine zw_40_4 zr_90_49 ?_ ?_
          · intro h28
            refine zw_15 (c := 1) (L' := [(2, 63), (0, (i2 + 1)), (0, x9), (0, x10)]) zr_90_102 rfl (by decide) (by omega) rfl ?_
            refine zw_42 zr_90_105 ?_
            exact zw_less (L := [(2, 63), (0, (i2 + 1)), (9, 0), (9, 0)]) ⟨Or.inr rfl, Or.inr rfl, Or.inl rfl, Or.inl rfl, trivial⟩ (ihlp10_4 ((i2 + 1)) m3 hIm3 hFm3   (by omega) (by omega)  (by omega))
          · intro h29; omega
  exact lp10_4 _ (0) m1 hIm1 hFm1   (by omega) (by omega)  (Nat.lt_succ_self _)

set_option maxHeartbeats 8000000 in
theorem th_92 {E : zE} {d : Nat} {m0 : zM} {a0 : Int} {a1 : Int} {a2 : Int} (hd : 2 ≤ d) (hI0 : zInv m0) (ha0 : 0 ≤ a0 ∧ a0 ≤ 9) (ha1 : 1 ≤ a1 ∧ a1 ≤ 9) (ha2 : 1 ≤ a2 ∧ a2 ≤ 9) : zC E d 92 [(2, 63), (0, a0), (0, a1), (0, a2)] m0 (fun v m' => ∃ r : Int, v = (0, r) ∧ 0 ≤ r ∧ r ≤ 1 ∧ m0 = m') := by
  generalize hQ : (fun (v : zV) (m' : zM) => ∃ r : Int, v = (0, r) ∧ 0 ≤ r ∧ r ≤ 1 ∧ m0 = m') = Q
  show zW E d 92 0 [(2, 63), (0, a0), (0, a1), (0, a2), (9, 0)] [] m0 Q
  refine zw_7 zr_92_0 rfl ?_
  refine zw_3 zr_92_1 rfl ?_
  refine zw_3 zr_92_2 rfl ?_
  refine zw_C zr_92_3 (Or.inl rfl) zm_91 rfl rfl ⟨Nat.le_of_ble_eq_true rfl, Nat.le_of_ble_eq_true rfl, Nat.le_of_ble_eq_true rfl, rfl, by decide⟩ (by omega) (P := (fun v m' => zW E (d) 92 6 [(2, 63), (0, a0), (0, a1), (0, a2), (9, 0)] (if v.1 = 9 then [] else v :: []) m' Q)) ?_ (fun _ _ h => h)
  generalize hQ1 : (fun v m' => zW E (d) 92 6 [(2, 63), (0, a0), (0, a1), (0, a2), (9, 0)] (if v.1 = 9 then [] else v :: []) m' Q) = Q1
  show zW E (d - 1) 91 0 [(2, 63), (0, a0), (0, a1)] [] m0 Q1
  refine zw_7 zr_91_0 rfl ?_
  refine zw_46r (s := 65) zr_91_1 rfl rfl rfl rfl ?_
  refine zw_3 zr_91_4 rfl ?_
  refine zw_push zr_91_5 ?_
  refine zw_18 zr_91_7 (by omega) ?_
  refine zw_3 zr_91_8 rfl ?_
  refine zw_16 zr_91_9 (by omega) ?_
  refine zw_48 (c := 65) (len := 100) zr_91_10 rfl rfl (by omega) (by omega) ?_
  intro x1 ex1
  have bx1 := hI0.ra (c := 65) (len := 100) (k := (((a0 * 10) + a1)).toNat) rfl (by omega)
  rw [← ex1] at bx1
  clear ex1
  refine zw_R zr_91_11 (by decide) zm_91 (v := (0, x1)) rfl ?_
  rw [← hQ1]
  show zW E (d) 92 6 [(2, 63), (0, a0), (0, a1), (0, a2), (9, 0)] [(0, x1)] m0 Q
  refine zw_40_5 zr_92_6 ?_ ?_
  · intro h2
    refine zw_push zr_92_31 ?_
    refine zw_10 (L' := [(2, 63), (0, a0), (0, a1), (0, a2), (0, 0)]) zr_92_32 (Nat.le_of_ble_eq_true rfl) rfl ?_
    refine zw_4 zr_92_34 rfl ?_
    refine zw_40_1 zr_92_36 ?_ ?_
    · intro h3
      refine zw_push zr_92_43 ?_
      refine zw_R zr_92_44 (by decide) zm_92 (v := (0, 0)) rfl ?_
      rw [← hQ]; exact ⟨_, rfl, by omega, by omega, rfl⟩
    · intro h4; omega
  · intro h5
    refine zw_7 zr_92_9 rfl ?_
    refine zw_3 zr_92_10 rfl ?_
    refine zw_3 zr_92_11 rfl ?_
    refine zw_C zr_92_12 (Or.inl rfl) zm_91 rfl rfl ⟨Nat.le_of_ble_eq_true rfl, Nat.le_of_ble_eq_true rfl, Nat.le_of_ble_eq_true rfl, rfl, by decide⟩ (by omega) (P := (fun v m' => zW E (d) 92 15 [(2, 63), (0, a0), (0, a1), (0, a2), (9, 0)] (if v.1 = 9 then [] else v :: []) m' Q)) ?_ (fun _ _ h => h)
    generalize hQ1 : (fun v m' => zW E (d) 92 15 [(2, 63), (0, a0), (0, a1), (0, a2), (9, 0)] (if v.1 = 9 then [] else v :: []) m' Q) = Q1
    show zW E (d - 1) 91 0 [(2, 63), (0, a1), (0, a2)] [] m0 Q1
    refine zw_7 zr_91_0 rfl ?_
    refine zw_46r (s := 65) zr_91_1 rfl rfl rfl rfl ?_
    refine zw_3 zr_91_4 rfl ?_
    refine zw_push zr_91_5 ?_
    refine zw_18 zr_91_7 (by omega) ?_
    refine zw_3 zr_91_8 rfl ?_
    refine zw_16 zr_91_9 (by omega) ?_
    refine zw_48 (c := 65) (len := 100) zr_91_10 rfl rfl (by omega) (by omega) ?_
    intro x6 ex6
    have bx6 := hI0.ra (c := 65) (len := 100) (k := (((a1 * 10) + a2)).toNat) rfl (by omega)
    rw [← ex6] at bx6
    clear ex6
    refine zw_R zr_91_11 (by decide) zm_91 (v := (0, x6)) rfl ?_
    rw [← hQ1]
    show zW E (d) 92 15 [(2, 63), (0, a0), (0, a1), (0, a2), (9, 0)] [(0, x6)] m0 Q
    refine zw_40_5 zr_92_15 ?_ ?_
    · intro h7
      refine zw_push zr_92_31 ?_
      refine zw_10 (L' := [(2, 63), (0, a0), (0, a1), (0, a2), (0, 0)]) zr_92_32 (Nat.le_of_ble_eq_true rfl) rfl ?_
      refine zw_4 zr_92_34 rfl ?_
      refine zw_40_1 zr_92_36 ?_ ?_
      · intro h8
        refine zw_push zr_92_43 ?_
        refine zw_R zr_92_44 (by decide) zm_92 (v := (0, 0)) rfl ?_
        rw [← hQ]; exact ⟨_, rfl, by omega, by omega, rfl⟩
      · intro h9; omega
    · intro h10
      refine zw_7 zr_92_18 rfl ?_
      refine zw_3 zr_92_19 rfl ?_
      refine zw_3 zr_92_20 rfl ?_
      refine zw_C zr_92_21 (Or.inl rfl) zm_91 rfl rfl ⟨Nat.le_of_ble_eq_true rfl, Nat.le_of_ble_eq_true rfl, Nat.le_of_ble_eq_true rfl, rfl, by decide⟩ (by omega) (P := (fun v m' => zW E (d) 92 24 [(2, 63), (0, a0), (0, a1), (0, a2), (9, 0)] (if v.1 = 9 then [] else v :: []) m' Q)) ?_ (fun _ _ h => h)
      generalize hQ1 : (fun v m' => zW E (d) 92 24 [(2, 63), (0, a0), (0, a1), (0, a2), (9, 0)] (if v.1 = 9 then [] else v :: []) m' Q) = Q1
      show zW E (d - 1) 91 0 [(2, 63), (0, a2), (0, a0)] [] m0 Q1
      refine zw_7 zr_91_0 rfl ?_
      refine zw_46r (s := 65) zr_91_1 rfl rfl rfl rfl ?_
      refine zw_3 zr_91_4 rfl ?_
      refine zw_push zr_91_5 ?_
      refine zw_18 zr_91_7 (by omega) ?_
      refine zw_3 zr_91_8 rfl ?_
      refine zw_16 zr_91_9 (by omega) ?_
      refine zw_48 (c := 65) (len := 100) zr_91_10 rfl rfl (by omega) (by omega) ?_
      intro x11 ex11
      have bx11 := hI0.ra (c := 65) (len := 100) (k := (((a2 * 10) + a0)).toNat) rfl (by omega)
      rw [← ex11] at bx11
      clear ex11
      refine zw_R zr_91_11 (by decide) zm_91 (v := (0, x11)) rfl ?_
      rw [← hQ1]
      show zW E (d) 92 24 [(2, 63), (0, a0), (0, a1), (0, a2), (9, 0)] [(0, x11)] m0 Q
      refine zw_40_5 zr_92_24 ?_ ?_
      · intro h12
        refine zw_push zr_92_31 ?_
        refine zw_10 (L' := [(2, 63), (0, a0), (0, a1), (0, a2), (0, 0)]) zr_92_32 (Nat.le_of_ble_eq_true rfl) rfl ?_
        refine zw_4 zr_92_34 rfl ?_
        refine zw_40_1 zr_92_36 ?_ ?_
        · intro h13
          refine zw_push zr_92_43 ?_
          refine zw_R zr_92_44 (by decide) zm_92 (v := (0, 0)) rfl ?_
          rw [← hQ]; exact ⟨_, rfl, by omega, by omega, rfl⟩
        · intro h14; omega
      · intro h15
        refine zw_push zr_92_27 ?_
        refine zw_42 zr_92_28 ?_
        refine zw_10 (L' := [(2, 63), (0, a0), (0, a1), (0, a2), (0, 1)]) zr_92_32 (Nat.le_of_ble_eq_true rfl) rfl ?_
        refine zw_4 zr_92_34 rfl ?_
        refine zw_40_1 zr_92_36 ?_ ?_
        · intro h16; omega
        · intro h17
          refine zw_push zr_92_39 ?_
          refine zw_42 zr_92_40 ?_
          refine zw_R zr_92_44 (by decide) zm_92 (v := (0, 1)) rfl ?_
          rw [← hQ]; exact ⟨_, rfl, by omega, by omega, rfl⟩

abbrev W_93 : List (Nat × Nat) := [(65, 1000)]
set_option maxHeartbeats 8000000 in
theorem th_93 {E : zE} {d : Nat} {m0 : zM} (hd : 3 ≤ d) (hI0 : zInv m0) : zC E d 93 [(2, 63)] m0 (fun v m' => ∃ r : Int, v = (0, r) ∧ (-2147483648) ≤ r ∧ r ≤ 2147483647 ∧ zInv m' ∧ zFr W_93 m0 m') := by
  have hF0 : zFr W_93 m0 m0 := zFr.rfl
  generalize hQ : (fun (v : zV) (m' : zM) => ∃ r : Int, v = (0, r) ∧ (-2147483648) ≤ r ∧ r ≤ 2147483647 ∧ zInv m' ∧ zFr W_93 m0 m') = Q
  show zW E d 93 0 [(2, 63), (9, 0), (9, 0), (9, 0), (9, 0)] [] m0 Q
  refine zw_7 zr_93_0 rfl ?_
  refine zw_C zr_93_1 (Or.inl rfl) zm_90 rfl rfl ⟨Nat.le_of_ble_eq_true rfl, Nat.le_of_ble_eq_true rfl, Nat.le_of_ble_eq_true rfl, rfl, by decide⟩ (by omega) (th_90 (d := d - 1) (by omega) hI0        ) ?_
  rintro _ m1 ⟨rfl, hIm1, gm1⟩
  have hFm1 : zFr W_93 m0 m1 := hF0.trans gm1 rfl
  show zW E (d) 93 4 [(2, 63), (9, 0), (9, 0), (9, 0), (9, 0)] [] m1 Q
  refine zw_push zr_93_4 ?_
  refine zw_9 (L' := [(2, 63), (0, 0), (9, 0), (9, 0), (9, 0)]) zr_93_5 (Nat.le_of_ble_eq_true rfl) rfl ?_
  refine zw_push zr_93_6 ?_
  refine zw_9 (L' := [(2, 63), (0, 0), (0, 0), (9, 0), (9, 0)]) zr_93_7 (Nat.le_of_ble_eq_true rfl) rfl ?_
  have lp8_4 : ∀ (nlp8_4 : Nat) (i2 i3 : Int), (-2147483648) ≤ i2 → i2 ≤ 2147483647 → 0 ≤ i3 → i3 ≤ 10 → (10 - i3).toNat < nlp8_4 → zW E (d) 93 8 [(2, 63), (0, i2), (0, i3), (9, 0), (9, 0)] [] m1 Q := by
    intro nlp8_4
    induction nlp8_4 with
    | zero =>
      intros
      exact absurd (by assumption : _ < 0) (Nat.not_lt_zero _)
    | succ nlp8_4 ihlp8_4 =>
      intro i2 i3 li2 ui2 li3 ui3 hmlp8_4
      refine zw_3 zr_93_8 rfl ?_
      refine zw_7 zr_93_9 rfl ?_
      refine zw_46r (s := 1) zr_93_10 rfl rfl rfl rfl ?_
      obtain ⟨f6, ef6⟩ : ∃ v, m1 1 0 = v := ⟨_, rfl⟩
      have bf6 := ib_1_0 hIm1
      rw [ef6] at bf6
      refine zw_46i zr_93_13 ef6 rfl rfl rfl ?_
      refine zw_41_3 zr_93_16 ?_ ?_
      · intro h7
        refine zw_3 zr_93_89 rfl ?_
        refine zw_R zr_93_90 (by decide) zm_93 (v := (0, i2)) rfl ?_
        rw [← hQ]; exact ⟨_, rfl, by omega, by omega, hIm1, hFm1⟩
      · intro h8
        refine zw_3 zr_93_19 rfl ?_
        refine zw_push zr_93_20 ?_
        refine zw_16 zr_93_21 (by omega) ?_
        refine zw_9 (L' := [(2, 63), (0, i2), (0, i3), (0, (i3 + 1)), (9, 0)]) zr_93_22 (Nat.le_of_ble_eq_true rfl) rfl ?_
        have lp23_11 : ∀ (nlp23_11 : Nat) (i9 i10 : Int), (-2147483648) ≤ i9 → i9 ≤ 2147483647 → 1 ≤ i10 → i10 ≤ 10 → (10 - i10).toNat < nlp23_11 → zW E (d) 93 23 [(2, 63), (0, i9), (0, i3), (0, i10), (9, 0)] [] m1 Q := by
          intro nlp23_11
          induction nlp23_11 with
          | zero =>
            intros
            exact absurd (by assumption : _ < 0) (Nat.not_lt_zero _)
          | succ nlp23_11 ihlp23_11 =>
            intro i9 i10 li9 ui9 li10 ui10 hmlp23_11
            refine zw_3 zr_93_23 rfl ?_
            refine zw_7 zr_93_24 rfl ?_
            refine zw_46r (s := 1) zr_93_25 rfl rfl rfl rfl ?_
            refine zw_46i zr_93_28 ef6 rfl rfl rfl ?_
            refine zw_41_3 zr_93_31 ?_ ?_
            · intro h13
              refine zw_15 (c := 1) (L' := [(2, 63), (0, i9), (0, (i3 + 1)), (0, i10), (9, 0)]) zr_93_83 rfl (by decide) (by omega) rfl ?_
              refine zw_42 zr_93_86 ?_
              exact zw_less (L := [(2, 63), (0, i9), (0, (i3 + 1)), (9, 0), (9, 0)]) ⟨Or.inr rfl, Or.inr rfl, Or.inr rfl, Or.inl rfl, Or.inl rfl, trivial⟩ (ihlp8_4 (i9) ((i3 + 1))  (by omega) (by omega) (by omega) (by omega)  (by omega))
            · intro h14
              refine zw_3 zr_93_34 rfl ?_
              refine zw_push zr_93_35 ?_
              refine zw_16 zr_93_36 (by omega) ?_
              refine zw_10 (L' := [(2, 63), (0, i9), (0, i3), (0, i10), (0, (i10 + 1))]) zr_93_37 (Nat.le_of_ble_eq_true rfl) rfl ?_
              have lp39_17 : ∀ (nlp39_17 : Nat) (i15 i16 : Int), (-2147483648) ≤ i15 → i15 ≤ 2147483647 → 2 ≤ i16 → i16 ≤ 10 → (10 - i16).toNat < nlp39_17 → zW E (d) 93 39 [(2, 63), (0, i15), (0, i3), (0, i10), (0, i16)] [] m1 Q := by
                intro nlp39_17
                induction nlp39_17 with
                | zero =>
                  intros
                  exact absurd (by assumption : _ < 0) (Nat.not_lt_zero _)
                | succ nlp39_17 ihlp39_17 =>
                  intro i15 i16 li15 ui15 li16 ui16 hmlp39_17
                  refine zw_4 zr_93_39 rfl ?_
                  refine zw_7 zr_93_41 rfl ?_
                  refine zw_46r (s := 1) zr_93_42 rfl rfl rfl rfl ?_
                  refine zw_46i zr_93_45 ef6 rfl rfl rfl ?_
                  refine zw_41_3 zr_93_48 ?_ ?_
                  · intro h19
                    refine zw_15 (c := 1) (L' := [(2, 63), (0, i15), (0, i3), (0, (i10 + 1)), (0, i16)]) zr_93_77 rfl (by decide) (by omega) rfl ?_
                    refine zw_42 zr_93_80 ?_
                    exact zw_less (L := [(2, 63), (0, i15), (0, i3), (0, (i10 + 1)), (9, 0)]) ⟨Or.inr rfl, Or.inr rfl, Or.inr rfl, Or.inr rfl, Or.inl rfl, trivial⟩ (ihlp23_11 (i15) ((i10 + 1))  (by omega) (by omega) (by omega) (by omega)  (by omega))
                  · intro h20
                    refine zw_3 zr_93_51 rfl ?_
                    refine zw_7 zr_93_52 rfl ?_
                    refine zw_3 zr_93_53 rfl ?_
                    refine zw_3 zr_93_54 rfl ?_
                    refine zw_4 zr_93_55 rfl ?_
                    refine zw_C zr_93_57 (Or.inl rfl) zm_92 rfl rfl ⟨Nat.le_of_ble_eq_true rfl, Nat.le_of_ble_eq_true rfl, Nat.le_of_ble_eq_true rfl, rfl, by decide⟩ (by omega) (th_92 (d := d - 1) (by omega) hIm1 (a0 := i3) (a1 := i10) (a2 := i16)      (by omega) (by omega) (by omega) ) ?_
                    rintro _ _ ⟨r21, rfl, hr21a, hr21b, rfl⟩
                    show zW E (d) 93 60 [(2, 63), (0, i15), (0, i3), (0, i10), (0, i16)] [(0, r21), (0, i15)] m1 Q
                    refine zw_7 zr_93_60 rfl ?_
                    refine zw_3 zr_93_61 rfl ?_
                    refine zw_4 zr_93_62 rfl ?_
                    refine zw_3 zr_93_64 rfl ?_
                    refine zw_C zr_93_65 (Or.inl rfl) zm_92 rfl rfl ⟨Nat.le_of_ble_eq_true rfl, Nat.le_of_ble_eq_true rfl, Nat.le_of_ble_eq_true rfl, rfl, by decide⟩ (by omega) (th_92 (d := d - 1) (by omega) hIm1 (a0 := i3) (a1 := i16) (a2 := i10)      (by omega) (by omega) (by omega) ) ?_
                    rintro _ _ ⟨r22, rfl, hr22a, hr22b, rfl⟩
                    show zW E (d) 93 68 [(2, 63), (0, i15), (0, i3), (0, i10), (0, i16)] [(0, r22), (0, r21), (0, i15)] m1 Q
                    refine zw_16 zr_93_68 (by omega) ?_
                    refine zw_16h zr_93_69 ?_
                    intro x23 hx23a hx23b
                    refine zw_9 (L' := [(2, 63), (0, x23), (0, i3), (0, i10), (0, i16)]) zr_93_70 (Nat.le_of_ble_eq_true rfl) rfl ?_
                    refine zw_15 (c := 1) (L' := [(2, 63), (0, x23), (0, i3), (0, i10), (0, (i16 + 1))]) zr_93_71 rfl (by decide) (by omega) rfl ?_
                    refine zw_42 zr_93_74 ?_
                    exact zw_less (L := [(2, 63), (0, x23), (0, i3), (0, i10), (0, (i16 + 1))]) ⟨Or.inr rfl, Or.inr rfl, Or.inr rfl, Or.inr rfl, Or.inr rfl, trivial⟩ (ihlp39_17 (x23) ((i16 + 1))  (by omega) (by omega) (by omega) (by omega)  (by omega))
              exact lp39_17 _ (i9) ((i10 + 1))  (by omega) (by omega) (by omega) (by omega)  (Nat.lt_succ_self _)
        exact lp23_11 _ (i2) ((i3 + 1))  (by omega) (by omega) (by omega) (by omega)  (Nat.lt_succ_self _)
  exact lp8_4 _ (0) (0)  (by omega) (by omega) (by omega) (by omega)  (Nat.lt_succ_self _)

abbrev W_124 : List (Nat × Nat) := [(65, 1000)]
set_option maxHeartbeats 8000000 in
theorem th_124 {E : zE} {d : Nat} {m0 : zM} (hd : 4 ≤ d) (hI0 : zInv m0) : zC E d 124 [(2, 0)] m0 (fun v m' => ∃ r : Int, v = (0, r) ∧ (-2147483648) ≤ r ∧ r ≤ 2147483647 ∧ zInv m' ∧ zFr W_124 m0 m') := by
  have hF0 : zFr W_124 m0 m0 := zFr.rfl
  generalize hQ : (fun (v : zV) (m' : zM) => ∃ r : Int, v = (0, r) ∧ (-2147483648) ≤ r ∧ r ≤ 2147483647 ∧ zInv m' ∧ zFr W_124 m0 m') = Q
  show zW E d 124 0 [(2, 0)] [] m0 Q
  refine zw_7 zr_124_0 rfl ?_
  refine zw_46r (s := 63) zr_124_1 rfl rfl rfl rfl ?_
  refine zw_C zr_124_4 (Or.inl rfl) zm_93 rfl rfl ⟨Nat.le_of_ble_eq_true rfl, Nat.le_of_ble_eq_true rfl, Nat.le_of_ble_eq_true rfl, rfl, by decide⟩ (by omega) (th_93 (d := d - 1) (by omega) hI0        ) ?_
  rintro _ m1 ⟨r2, rfl, hr2a, hr2b, hIm1, gm1⟩
  have hFm1 : zFr W_124 m0 m1 := hF0.trans gm1 rfl
  show zW E (d) 124 7 [(2, 0)] [(0, r2)] m1 Q
  refine zw_R zr_124_7 (by decide) zm_124 (v := (0, r2)) rfl ?_
  rw [← hQ]; exact ⟨_, rfl, by omega, by omega, hIm1, hFm1⟩

set_option maxHeartbeats 8000000 in
theorem th_197 {E : zE} {d : Nat} {m0 : zM} {a0 : Int} {a1 : Int} (hd : 2 ≤ d) (hI0 : zInv m0) (ha0 : 0 ≤ a0 ∧ a0 ≤ 9) (ha1 : 0 ≤ a1 ∧ a1 ≤ 9) : zC E d 197 [(2, 69), (0, a0), (0, a1)] m0 (fun v m' => ∃ r : Int, v = (0, r) ∧ 0 ≤ r ∧ r ≤ 1 ∧ m0 = m') := by
  generalize hQ : (fun (v : zV) (m' : zM) => ∃ r : Int, v = (0, r) ∧ 0 ≤ r ∧ r ≤ 1 ∧ m0 = m') = Q
  show zW E d 197 0 [(2, 69), (0, a0), (0, a1), (9, 0), (9, 0), (9, 0)] [] m0 Q
  refine zw_push zr_197_0 ?_
  refine zw_9 (L' := [(2, 69), (0, a0), (0, a1), (0, 0), (9, 0), (9, 0)]) zr_197_1 (Nat.le_of_ble_eq_true rfl) rfl ?_
  refine zw_push zr_197_2 ?_
  refine zw_10 (L' := [(2, 69), (0, a0), (0, a1), (0, 0), (0, 0), (9, 0)]) zr_197_3 (Nat.le_of_ble_eq_true rfl) rfl ?_
  have lp5_3 : ∀ (nlp5_3 : Nat) (i1 i2 : Int), 0 ≤ i1 → i1 ≤ 1 → 0 ≤ i2 → i2 ≤ 60 → (60 - i2).toNat < nlp5_3 → zW E (d) 197 5 [(2, 69), (0, a0), (0, a1), (0, i1), (0, i2), (9, 0)] [] m0 Q := by
    intro nlp5_3
    induction nlp5_3 with
    | zero =>
      intros
      exact absurd (by assumption : _ < 0) (Nat.not_lt_zero _)
    | succ nlp5_3 ihlp5_3 =>
      intro i1 i2 li1 ui1 li2 ui2 hmlp5_3
      refine zw_4 zr_197_5 rfl ?_
      refine zw_7 zr_197_7 rfl ?_
      refine zw_C zr_197_8 (Or.inl rfl) zm_142 rfl rfl ⟨Nat.le_of_ble_eq_true rfl, Nat.le_of_ble_eq_true rfl, Nat.le_of_ble_eq_true rfl, rfl, by decide⟩ (by omega) (P := (fun v m' => zW E (d) 197 11 [(2, 69), (0, a0), (0, a1), (0, i1), (0, i2), (9, 0)] (if v.1 = 9 then [(0, i2)] else v :: [(0, i2)]) m' Q)) ?_ (fun _ _ h => h)
      generalize hQ1 : (fun v m' => zW E (d) 197 11 [(2, 69), (0, a0), (0, a1), (0, i1), (0, i2), (9, 0)] (if v.1 = 9 then [(0, i2)] else v :: [(0, i2)]) m' Q) = Q1
      show zW E (d - 1) 142 0 [(2, 69)] [] m0 Q1
      refine zw_7 zr_142_0 rfl ?_
      refine zw_46r (s := 70) zr_142_1 rfl rfl rfl rfl ?_
      refine zw_push zr_142_4 ?_
      obtain ⟨f5, ef5⟩ : ∃ v, m0 70 823 = v := ⟨_, rfl⟩
      have bf5 : 0 ≤ m0 70 823 ∧ m0 70 823 ≤ 60 := ib_70_meetings hI0 (by omega)
      rw [ef5] at bf5
      refine zw_48k (c := 70) (len := 826) zr_142_7 rfl rfl (by omega) (by omega) (show (823 : Int).toNat = 823 by omega) ef5 ?_
      refine zw_R zr_142_8 (by decide) zm_142 (v := (0, f5)) rfl ?_
      rw [← hQ1]
      show zW E (d) 197 11 [(2, 69), (0, a0), (0, a1), (0, i1), (0, i2), (9, 0)] [(0, f5), (0, i2)] m0 Q
      refine zw_41_3 zr_197_11 ?_ ?_
      · intro h6
        refine zw_3 zr_197_117 rfl ?_
        refine zw_R zr_197_118 (by decide) zm_197 (v := (0, i1)) (zRetB (by omega)) ?_
        rw [← hQ]; exact ⟨_, rfl, by omega, by omega, rfl⟩
      · intro h7
        refine zw_7 zr_197_14 rfl ?_
        refine zw_4 zr_197_15 rfl ?_
        refine zw_push zr_197_17 ?_
        refine zw_C zr_197_18 (Or.inl rfl) zm_144 rfl rfl ⟨Nat.le_of_ble_eq_true rfl, Nat.le_of_ble_eq_true rfl, Nat.le_of_ble_eq_true rfl, rfl, by decide⟩ (by omega) (P := (fun v m' => zW E (d) 197 21 [(2, 69), (0, a0), (0, a1), (0, i1), (0, i2), (9, 0)] (if v.1 = 9 then [] else v :: []) m' Q)) ?_ (fun _ _ h => h)
        generalize hQ1 : (fun v m' => zW E (d) 197 21 [(2, 69), (0, a0), (0, a1), (0, i1), (0, i2), (9, 0)] (if v.1 = 9 then [] else v :: []) m' Q) = Q1
        show zW E (d - 1) 144 0 [(2, 69), (0, i2), (0, 1)] [] m0 Q1
        refine zw_7 zr_144_0 rfl ?_
        refine zw_46r (s := 70) zr_144_1 rfl rfl rfl rfl ?_
        refine zw_push zr_144_4 ?_
        refine zw_push zr_144_6 ?_
        refine zw_3 zr_144_8 rfl ?_
        refine zw_18 zr_144_9 (by omega) ?_
        refine zw_16 zr_144_10 (by omega) ?_
        refine zw_3 zr_144_11 rfl ?_
        refine zw_16 zr_144_12 (by omega) ?_
        refine zw_48 (c := 70) (len := 826) zr_144_13 rfl rfl (by omega) (by omega) ?_
        intro x8 ex8
        have bx8 := ib_70_m1 hI0 (k := (((90 + (6 * i2)) + 1)).toNat) (by omega)
        rw [← ex8] at bx8
        refine zw_R zr_144_14 (by decide) zm_144 (v := (0, x8)) rfl ?_
        rw [← hQ1]
        show zW E (d) 197 21 [(2, 69), (0, a0), (0, a1), (0, i1), (0, i2), (9, 0)] [(0, x8)] m0 Q
        refine zw_3 zr_197_21 rfl ?_
        refine zw_41_4 zr_197_22 ?_ ?_
        · intro h9
          refine zw_7 zr_197_47 rfl ?_
          refine zw_4 zr_197_48 rfl ?_
          refine zw_push zr_197_50 ?_
          refine zw_C zr_197_51 (Or.inl rfl) zm_144 rfl rfl ⟨Nat.le_of_ble_eq_true rfl, Nat.le_of_ble_eq_true rfl, Nat.le_of_ble_eq_true rfl, rfl, by decide⟩ (by omega) (P := (fun v m' => zW E (d) 197 54 [(2, 69), (0, a0), (0, a1), (0, i1), (0, i2), (9, 0)] (if v.1 = 9 then [] else v :: []) m' Q)) ?_ (fun _ _ h => h)
          generalize hQ1 : (fun v m' => zW E (d) 197 54 [(2, 69), (0, a0), (0, a1), (0, i1), (0, i2), (9, 0)] (if v.1 = 9 then [] else v :: []) m' Q) = Q1
          show zW E (d - 1) 144 0 [(2, 69), (0, i2), (0, 1)] [] m0 Q1
          refine zw_7 zr_144_0 rfl ?_
          refine zw_46r (s := 70) zr_144_1 rfl rfl rfl rfl ?_
          refine zw_push zr_144_4 ?_
          refine zw_push zr_144_6 ?_
          refine zw_3 zr_144_8 rfl ?_
          refine zw_18 zr_144_9 (by omega) ?_
          refine zw_16 zr_144_10 (by omega) ?_
          refine zw_3 zr_144_11 rfl ?_
          refine zw_16 zr_144_12 (by omega) ?_
          refine zw_48k (c := 70) (len := 826) zr_144_13 rfl rfl (by omega) (by omega) rfl ex8.symm ?_
          refine zw_R zr_144_14 (by decide) zm_144 (v := (0, x8)) rfl ?_
          rw [← hQ1]
          show zW E (d) 197 54 [(2, 69), (0, a0), (0, a1), (0, i1), (0, i2), (9, 0)] [(0, x8)] m0 Q
          refine zw_3 zr_197_54 rfl ?_
          refine zw_41_4 zr_197_55 ?_ ?_
          · intro h10
            refine zw_push zr_197_83 ?_
            refine zw_10 (L' := [(2, 69), (0, a0), (0, a1), (0, i1), (0, i2), (0, 0)]) zr_197_84 (Nat.le_of_ble_eq_true rfl) rfl ?_
            refine zw_3 zr_197_86 rfl ?_
            refine zw_40_4 zr_197_87 ?_ ?_
            · intro h11
              refine zw_push zr_197_105 ?_
              refine zw_42 zr_197_106 ?_
              refine zw_9 (L' := [(2, 69), (0, a0), (0, a1), (0, 1), (0, i2), (0, 0)]) zr_197_110 (Nat.le_of_ble_eq_true rfl) rfl ?_
              refine zw_15 (c := 1) (L' := [(2, 69), (0, a0), (0, a1), (0, 1), (0, (i2 + 1)), (0, 0)]) zr_197_111 rfl (by decide) (by omega) rfl ?_
              refine zw_42 zr_197_114 ?_
              exact zw_less (L := [(2, 69), (0, a0), (0, a1), (0, 1), (0, (i2 + 1)), (9, 0)]) ⟨Or.inr rfl, Or.inr rfl, Or.inr rfl, Or.inr rfl, Or.inr rfl, Or.inl rfl, trivial⟩ (ihlp5_3 (1) ((i2 + 1))  (by omega) (by omega) (by omega) (by omega)  (by omega))
            · intro h12
              refine zw_4 zr_197_90 rfl ?_
              refine zw_40_1 zr_197_92 ?_ ?_
              · intro h13
                refine zw_push zr_197_109 ?_
                refine zw_9 (L' := [(2, 69), (0, a0), (0, a1), (0, 0), (0, i2), (0, 0)]) zr_197_110 (Nat.le_of_ble_eq_true rfl) rfl ?_
                refine zw_15 (c := 1) (L' := [(2, 69), (0, a0), (0, a1), (0, 0), (0, (i2 + 1)), (0, 0)]) zr_197_111 rfl (by decide) (by omega) rfl ?_
                refine zw_42 zr_197_114 ?_
                exact zw_less (L := [(2, 69), (0, a0), (0, a1), (0, 0), (0, (i2 + 1)), (9, 0)]) ⟨Or.inr rfl, Or.inr rfl, Or.inr rfl, Or.inr rfl, Or.inr rfl, Or.inl rfl, trivial⟩ (ihlp5_3 (0) ((i2 + 1))  (by omega) (by omega) (by omega) (by omega)  (by omega))
              · intro h14; omega
          · intro h15
            refine zw_7 zr_197_58 rfl ?_
            refine zw_4 zr_197_59 rfl ?_
            refine zw_push zr_197_61 ?_
            refine zw_C zr_197_62 (Or.inl rfl) zm_144 rfl rfl ⟨Nat.le_of_ble_eq_true rfl, Nat.le_of_ble_eq_true rfl, Nat.le_of_ble_eq_true rfl, rfl, by decide⟩ (by omega) (P := (fun v m' => zW E (d) 197 65 [(2, 69), (0, a0), (0, a1), (0, i1), (0, i2), (9, 0)] (if v.1 = 9 then [] else v :: []) m' Q)) ?_ (fun _ _ h => h)
            generalize hQ1 : (fun v m' => zW E (d) 197 65 [(2, 69), (0, a0), (0, a1), (0, i1), (0, i2), (9, 0)] (if v.1 = 9 then [] else v :: []) m' Q) = Q1
            show zW E (d - 1) 144 0 [(2, 69), (0, i2), (0, 2)] [] m0 Q1
            refine zw_7 zr_144_0 rfl ?_
            refine zw_46r (s := 70) zr_144_1 rfl rfl rfl rfl ?_
            refine zw_push zr_144_4 ?_
            refine zw_push zr_144_6 ?_
            refine zw_3 zr_144_8 rfl ?_
            refine zw_18 zr_144_9 (by omega) ?_
            refine zw_16 zr_144_10 (by omega) ?_
            refine zw_3 zr_144_11 rfl ?_
            refine zw_16 zr_144_12 (by omega) ?_
            refine zw_48 (c := 70) (len := 826) zr_144_13 rfl rfl (by omega) (by omega) ?_
            intro x16 ex16
            have bx16 := ib_70_m2 hI0 (k := (((90 + (6 * i2)) + 2)).toNat) (by omega)
            rw [← ex16] at bx16
            refine zw_R zr_144_14 (by decide) zm_144 (v := (0, x16)) rfl ?_
            rw [← hQ1]
            show zW E (d) 197 65 [(2, 69), (0, a0), (0, a1), (0, i1), (0, i2), (9, 0)] [(0, x16)] m0 Q
            refine zw_3 zr_197_65 rfl ?_
            refine zw_41_4 zr_197_66 ?_ ?_
            · intro h17
              refine zw_push zr_197_83 ?_
              refine zw_10 (L' := [(2, 69), (0, a0), (0, a1), (0, i1), (0, i2), (0, 0)]) zr_197_84 (Nat.le_of_ble_eq_true rfl) rfl ?_
              refine zw_3 zr_197_86 rfl ?_
              refine zw_40_4 zr_197_87 ?_ ?_
              · intro h18
                refine zw_push zr_197_105 ?_
                refine zw_42 zr_197_106 ?_
                refine zw_9 (L' := [(2, 69), (0, a0), (0, a1), (0, 1), (0, i2), (0, 0)]) zr_197_110 (Nat.le_of_ble_eq_true rfl) rfl ?_
                refine zw_15 (c := 1) (L' := [(2, 69), (0, a0), (0, a1), (0, 1), (0, (i2 + 1)), (0, 0)]) zr_197_111 rfl (by decide) (by omega) rfl ?_
                refine zw_42 zr_197_114 ?_
                exact zw_less (L := [(2, 69), (0, a0), (0, a1), (0, 1), (0, (i2 + 1)), (9, 0)]) ⟨Or.inr rfl, Or.inr rfl, Or.inr rfl, Or.inr rfl, Or.inr rfl, Or.inl rfl, trivial⟩ (ihlp5_3 (1) ((i2 + 1))  (by omega) (by omega) (by omega) (by omega)  (by omega))
              · intro h19
                refine zw_4 zr_197_90 rfl ?_
                refine zw_40_1 zr_197_92 ?_ ?_
                · intro h20
                  refine zw_push zr_197_109 ?_
                  refine zw_9 (L' := [(2, 69), (0, a0), (0, a1), (0, 0), (0, i2), (0, 0)]) zr_197_110 (Nat.le_of_ble_eq_true rfl) rfl ?_
                  refine zw_15 (c := 1) (L' := [(2, 69), (0, a0), (0, a1), (0, 0), (0, (i2 + 1)), (0, 0)]) zr_197_111 rfl (by decide) (by omega) rfl ?_
                  refine zw_42 zr_197_114 ?_
                  exact zw_less (L := [(2, 69), (0, a0), (0, a1), (0, 0), (0, (i2 + 1)), (9, 0)]) ⟨Or.inr rfl, Or.inr rfl, Or.inr rfl, Or.inr rfl, Or.inr rfl, Or.inl rfl, trivial⟩ (ihlp5_3 (0) ((i2 + 1))  (by omega) (by omega) (by omega) (by omega)  (by omega))
                · intro h21; omega
            · intro h22
              refine zw_7 zr_197_69 rfl ?_
              refine zw_4 zr_197_70 rfl ?_
              refine zw_push zr_197_72 ?_
              refine zw_C zr_197_73 (Or.inl rfl) zm_144 rfl rfl ⟨Nat.le_of_ble_eq_true rfl, Nat.le_of_ble_eq_true rfl, Nat.le_of_ble_eq_true rfl, rfl, by decide⟩ (by omega) (P := (fun v m' => zW E (d) 197 76 [(2, 69), (0, a0), (0, a1), (0, i1), (0, i2), (9, 0)] (if v.1 = 9 then [] else v :: []) m' Q)) ?_ (fun _ _ h => h)
              generalize hQ1 : (fun v m' => zW E (d) 197 76 [(2, 69), (0, a0), (0, a1), (0, i1), (0, i2), (9, 0)] (if v.1 = 9 then [] else v :: []) m' Q) = Q1
              show zW E (d - 1) 144 0 [(2, 69), (0, i2), (0, 3)] [] m0 Q1
              refine zw_7 zr_144_0 rfl ?_
              refine zw_46r (s := 70) zr_144_1 rfl rfl rfl rfl ?_
              refine zw_push zr_144_4 ?_
              refine zw_push zr_144_6 ?_
              refine zw_3 zr_144_8 rfl ?_
              refine zw_18 zr_144_9 (by omega) ?_
              refine zw_16 zr_144_10 (by omega) ?_
              refine zw_3 zr_144_11 rfl ?_
              refine zw_16 zr_144_12 (by omega) ?_
              refine zw_48 (c := 70) (len := 826) zr_144_13 rfl rfl (by omega) (by omega) ?_
              intro x23 ex23
              have bx23 := ib_70_m3 hI0 (k := (((90 + (6 * i2)) + 3)).toNat) (by omega)
              rw [← ex23] at bx23
              refine zw_R zr_144_14 (by decide) zm_144 (v := (0, x23)) rfl ?_
              rw [← hQ1]
              show zW E (d) 197 76 [(2, 69), (0, a0), (0, a1), (0, i1), (0, i2), (9, 0)] [(0, x23)] m0 Q
              refine zw_40_4 zr_197_76 ?_ ?_
              · intro h24
                refine zw_push zr_197_83 ?_
                refine zw_10 (L' := [(2, 69), (0, a0), (0, a1), (0, i1), (0, i2), (0, 0)]) zr_197_84 (Nat.le_of_ble_eq_true rfl) rfl ?_
                refine zw_3 zr_197_86 rfl ?_
                refine zw_40_4 zr_197_87 ?_ ?_
                · intro h25
                  refine zw_push zr_197_105 ?_
                  refine zw_42 zr_197_106 ?_
                  refine zw_9 (L' := [(2, 69), (0, a0), (0, a1), (0, 1), (0, i2), (0, 0)]) zr_197_110 (Nat.le_of_ble_eq_true rfl) rfl ?_
                  refine zw_15 (c := 1) (L' := [(2, 69), (0, a0), (0, a1), (0, 1), (0, (i2 + 1)), (0, 0)]) zr_197_111 rfl (by decide) (by omega) rfl ?_
                  refine zw_42 zr_197_114 ?_
                  exact zw_less (L := [(2, 69), (0, a0), (0, a1), (0, 1), (0, (i2 + 1)), (9, 0)]) ⟨Or.inr rfl, Or.inr rfl, Or.inr rfl, Or.inr rfl, Or.inr rfl, Or.inl rfl, trivial⟩ (ihlp5_3 (1) ((i2 + 1))  (by omega) (by omega) (by omega) (by omega)  (by omega))
                · intro h26
                  refine zw_4 zr_197_90 rfl ?_
                  refine zw_40_1 zr_197_92 ?_ ?_
                  · intro h27
                    refine zw_push zr_197_109 ?_
                    refine zw_9 (L' := [(2, 69), (0, a0), (0, a1), (0, 0), (0, i2), (0, 0)]) zr_197_110 (Nat.le_of_ble_eq_true rfl) rfl ?_
                    refine zw_15 (c := 1) (L' := [(2, 69), (0, a0), (0, a1), (0, 0), (0, (i2 + 1)), (0, 0)]) zr_197_111 rfl (by decide) (by omega) rfl ?_
                    refine zw_42 zr_197_114 ?_
                    exact zw_less (L := [(2, 69), (0, a0), (0, a1), (0, 0), (0, (i2 + 1)), (9, 0)]) ⟨Or.inr rfl, Or.inr rfl, Or.inr rfl, Or.inr rfl, Or.inr rfl, Or.inl rfl, trivial⟩ (ihlp5_3 (0) ((i2 + 1))  (by omega) (by omega) (by omega) (by omega)  (by omega))
                  · intro h28; omega
              · intro h29
                refine zw_push zr_197_79 ?_
                refine zw_42 zr_197_80 ?_
                refine zw_10 (L' := [(2, 69), (0, a0), (0, a1), (0, i1), (0, i2), (0, 1)]) zr_197_84 (Nat.le_of_ble_eq_true rfl) rfl ?_
                refine zw_3 zr_197_86 rfl ?_
                refine zw_40_4 zr_197_87 ?_ ?_
                · intro h30
                  refine zw_push zr_197_105 ?_
                  refine zw_42 zr_197_106 ?_
                  refine zw_9 (L' := [(2, 69), (0, a0), (0, a1), (0, 1), (0, i2), (0, 1)]) zr_197_110 (Nat.le_of_ble_eq_true rfl) rfl ?_
                  refine zw_15 (c := 1) (L' := [(2, 69), (0, a0), (0, a1), (0, 1), (0, (i2 + 1)), (0, 1)]) zr_197_111 rfl (by decide) (by omega) rfl ?_
                  refine zw_42 zr_197_114 ?_
                  exact zw_less (L := [(2, 69), (0, a0), (0, a1), (0, 1), (0, (i2 + 1)), (9, 0)]) ⟨Or.inr rfl, Or.inr rfl, Or.inr rfl, Or.inr rfl, Or.inr rfl, Or.inl rfl, trivial⟩ (ihlp5_3 (1) ((i2 + 1))  (by omega) (by omega) (by omega) (by omega)  (by omega))
                · intro h31
                  refine zw_4 zr_197_90 rfl ?_
                  refine zw_40_1 zr_197_92 ?_ ?_
                  · intro h32; omega
                  · intro h33
                    refine zw_7 zr_197_95 rfl ?_
                    refine zw_4 zr_197_96 rfl ?_
                    refine zw_push zr_197_98 ?_
                    refine zw_C zr_197_99 (Or.inl rfl) zm_144 rfl rfl ⟨Nat.le_of_ble_eq_true rfl, Nat.le_of_ble_eq_true rfl, Nat.le_of_ble_eq_true rfl, rfl, by decide⟩ (by omega) (P := (fun v m' => zW E (d) 197 102 [(2, 69), (0, a0), (0, a1), (0, i1), (0, i2), (0, 1)] (if v.1 = 9 then [] else v :: []) m' Q)) ?_ (fun _ _ h => h)
                    generalize hQ1 : (fun v m' => zW E (d) 197 102 [(2, 69), (0, a0), (0, a1), (0, i1), (0, i2), (0, 1)] (if v.1 = 9 then [] else v :: []) m' Q) = Q1
                    show zW E (d - 1) 144 0 [(2, 69), (0, i2), (0, 4)] [] m0 Q1
                    refine zw_7 zr_144_0 rfl ?_
                    refine zw_46r (s := 70) zr_144_1 rfl rfl rfl rfl ?_
                    refine zw_push zr_144_4 ?_
                    refine zw_push zr_144_6 ?_
                    refine zw_3 zr_144_8 rfl ?_
                    refine zw_18 zr_144_9 (by omega) ?_
                    refine zw_16 zr_144_10 (by omega) ?_
                    refine zw_3 zr_144_11 rfl ?_
                    refine zw_16 zr_144_12 (by omega) ?_
                    refine zw_48 (c := 70) (len := 826) zr_144_13 rfl rfl (by omega) (by omega) ?_
                    intro x34 ex34
                    have bx34 := ib_70_m4 hI0 (k := (((90 + (6 * i2)) + 4)).toNat) (by omega)
                    rw [← ex34] at bx34
                    refine zw_R zr_144_14 (by decide) zm_144 (v := (0, x34)) rfl ?_
                    rw [← hQ1]
                    show zW E (d) 197 102 [(2, 69), (0, a0), (0, a1), (0, i1), (0, i2), (0, 1)] [(0, x34)] m0 Q
                    refine zw_40_4 zr_197_102 ?_ ?_
                    · intro h35
                      refine zw_push zr_197_109 ?_
                      refine zw_9 (L' := [(2, 69), (0, a0), (0, a1), (0, 0), (0, i2), (0, 1)]) zr_197_110 (Nat.le_of_ble_eq_true rfl) rfl ?_
                      refine zw_15 (c := 1) (L' := [(2, 69), (0, a0), (0, a1), (0, 0), (0, (i2 + 1)), (0, 1)]) zr_197_111 rfl (by decide) (by omega) rfl ?_
                      refine zw_42 zr_197_114 ?_
                      exact zw_less (L := [(2, 69), (0, a0), (0, a1), (0, 0), (0, (i2 + 1)), (9, 0)]) ⟨Or.inr rfl, Or.inr rfl, Or.inr rfl, Or.inr rfl, Or.inr rfl, Or.inl rfl, trivial⟩ (ihlp5_3 (0) ((i2 + 1))  (by omega) (by omega) (by omega) (by omega)  (by omega))
                    · intro h36
                      refine zw_push zr_197_105 ?_
                      refine zw_42 zr_197_106 ?_
                      refine zw_9 (L' := [(2, 69), (0, a0), (0, a1), (0, 1), (0, i2), (0, 1)]) zr_197_110 (Nat.le_of_ble_eq_true rfl) rfl ?_
                      refine zw_15 (c := 1) (L' := [(2, 69), (0, a0), (0, a1), (0, 1), (0, (i2 + 1)), (0, 1)]) zr_197_111 rfl (by decide) (by omega) rfl ?_
                      refine zw_42 zr_197_114 ?_
                      exact zw_less (L := [(2, 69), (0, a0), (0, a1), (0, 1), (0, (i2 + 1)), (9, 0)]) ⟨Or.inr rfl, Or.inr rfl, Or.inr rfl, Or.inr rfl, Or.inr rfl, Or.inl rfl, trivial⟩ (ihlp5_3 (1) ((i2 + 1))  (by omega) (by omega) (by omega) (by omega)  (by omega))
        · intro h37
          refine zw_7 zr_197_25 rfl ?_
          refine zw_4 zr_197_26 rfl ?_
          refine zw_push zr_197_28 ?_
          refine zw_C zr_197_29 (Or.inl rfl) zm_144 rfl rfl ⟨Nat.le_of_ble_eq_true rfl, Nat.le_of_ble_eq_true rfl, Nat.le_of_ble_eq_true rfl, rfl, by decide⟩ (by omega) (P := (fun v m' => zW E (d) 197 32 [(2, 69), (0, a0), (0, a1), (0, i1), (0, i2), (9, 0)] (if v.1 = 9 then [] else v :: []) m' Q)) ?_ (fun _ _ h => h)
          generalize hQ1 : (fun v m' => zW E (d) 197 32 [(2, 69), (0, a0), (0, a1), (0, i1), (0, i2), (9, 0)] (if v.1 = 9 then [] else v :: []) m' Q) = Q1
          show zW E (d - 1) 144 0 [(2, 69), (0, i2), (0, 2)] [] m0 Q1
          refine zw_7 zr_144_0 rfl ?_
          refine zw_46r (s := 70) zr_144_1 rfl rfl rfl rfl ?_
          refine zw_push zr_144_4 ?_
          refine zw_push zr_144_6 ?_
          refine zw_3 zr_144_8 rfl ?_
          refine zw_18 zr_144_9 (by omega) ?_
          refine zw_16 zr_144_10 (by omega) ?_
          refine zw_3 zr_144_11 rfl ?_
          refine zw_16 zr_144_12 (by omega) ?_
          refine zw_48 (c := 70) (len := 826) zr_144_13 rfl rfl (by omega) (by omega) ?_
          intro x38 ex38
          have bx38 := ib_70_m2 hI0 (k := (((90 + (6 * i2)) + 2)).toNat) (by omega)
          rw [← ex38] at bx38
          refine zw_R zr_144_14 (by decide) zm_144 (v := (0, x38)) rfl ?_
          rw [← hQ1]
          show zW E (d) 197 32 [(2, 69), (0, a0), (0, a1), (0, i1), (0, i2), (9, 0)] [(0, x38)] m0 Q
          refine zw_3 zr_197_32 rfl ?_
          refine zw_41_4 zr_197_33 ?_ ?_
          · intro h39
            refine zw_7 zr_197_47 rfl ?_
            refine zw_4 zr_197_48 rfl ?_
            refine zw_push zr_197_50 ?_
            refine zw_C zr_197_51 (Or.inl rfl) zm_144 rfl rfl ⟨Nat.le_of_ble_eq_true rfl, Nat.le_of_ble_eq_true rfl, Nat.le_of_ble_eq_true rfl, rfl, by decide⟩ (by omega) (P := (fun v m' => zW E (d) 197 54 [(2, 69), (0, a0), (0, a1), (0, i1), (0, i2), (9, 0)] (if v.1 = 9 then [] else v :: []) m' Q)) ?_ (fun _ _ h => h)
            generalize hQ1 : (fun v m' => zW E (d) 197 54 [(2, 69), (0, a0), (0, a1), (0, i1), (0, i2), (9, 0)] (if v.1 = 9 then [] else v :: []) m' Q) = Q1
            show zW E (d - 1) 144 0 [(2, 69), (0, i2), (0, 1)] [] m0 Q1
            refine zw_7 zr_144_0 rfl ?_
            refine zw_46r (s := 70) zr_144_1 rfl rfl rfl rfl ?_
            refine zw_push zr_144_4 ?_
            refine zw_push zr_144_6 ?_
            refine zw_3 zr_144_8 rfl ?_
            refine zw_18 zr_144_9 (by omega) ?_
            refine zw_16 zr_144_10 (by omega) ?_
            refine zw_3 zr_144_11 rfl ?_
            refine zw_16 zr_144_12 (by omega) ?_
            refine zw_48k (c := 70) (len := 826) zr_144_13 rfl rfl (by omega) (by omega) rfl ex8.symm ?_
            refine zw_R zr_144_14 (by decide) zm_144 (v := (0, x8)) rfl ?_
            rw [← hQ1]
            show zW E (d) 197 54 [(2, 69), (0, a0), (0, a1), (0, i1), (0, i2), (9, 0)] [(0, x8)] m0 Q
            refine zw_3 zr_197_54 rfl ?_
            refine zw_41_4 zr_197_55 ?_ ?_
            · intro h40
              refine zw_push zr_197_83 ?_
              refine zw_10 (L' := [(2, 69), (0, a0), (0, a1), (0, i1), (0, i2), (0, 0)]) zr_197_84 (Nat.le_of_ble_eq_true rfl) rfl ?_
              refine zw_3 zr_197_86 rfl ?_
              refine zw_40_4 zr_197_87 ?_ ?_
              · intro h41
                refine zw_push zr_197_105 ?_
                refine zw_42 zr_197_106 ?_
                refine zw_9 (L' := [(2, 69), (0, a0), (0, a1), (0, 1), (0, i2), (0, 0)]) zr_197_110 (Nat.le_of_ble_eq_true rfl) rfl ?_
                refine zw_15 (c := 1) (L' := [(2, 69), (0, a0), (0, a1), (0, 1), (0, (i2 + 1)), (0, 0)]) zr_197_111 rfl (by decide) (by omega) rfl ?_
                refine zw_42 zr_197_114 ?_
                exact zw_less (L := [(2, 69), (0, a0), (0, a1), (0, 1), (0, (i2 + 1)), (9, 0)]) ⟨Or.inr rfl, Or.inr rfl, Or.inr rfl, Or.inr rfl, Or.inr rfl, Or.inl rfl, trivial⟩ (ihlp5_3 (1) ((i2 + 1))  (by omega) (by omega) (by omega) (by omega)  (by omega))
              · intro h42
                refine zw_4 zr_197_90 rfl ?_
                refine zw_40_1 zr_197_92 ?_ ?_
                · intro h43
                  refine zw_push zr_197_109 ?_
                  refine zw_9 (L' := [(2, 69), (0, a0), (0, a1), (0, 0), (0, i2), (0, 0)]) zr_197_110 (Nat.le_of_ble_eq_true rfl) rfl ?_
                  refine zw_15 (c := 1) (L' := [(2, 69), (0, a0), (0, a1), (0, 0), (0, (i2 + 1)), (0, 0)]) zr_197_111 rfl (by decide) (by omega) rfl ?_
                  refine zw_42 zr_197_114 ?_
                  exact zw_less (L := [(2, 69), (0, a0), (0, a1), (0, 0), (0, (i2 + 1)), (9, 0)]) ⟨Or.inr rfl, Or.inr rfl, Or.inr rfl, Or.inr rfl, Or.inr rfl, Or.inl rfl, trivial⟩ (ihlp5_3 (0) ((i2 + 1))  (by omega) (by omega) (by omega) (by omega)  (by omega))
                · intro h44; omega
            · intro h45
              refine zw_7 zr_197_58 rfl ?_
              refine zw_4 zr_197_59 rfl ?_
              refine zw_push zr_197_61 ?_
              refine zw_C zr_197_62 (Or.inl rfl) zm_144 rfl rfl ⟨Nat.le_of_ble_eq_true rfl, Nat.le_of_ble_eq_true rfl, Nat.le_of_ble_eq_true rfl, rfl, by decide⟩ (by omega) (P := (fun v m' => zW E (d) 197 65 [(2, 69), (0, a0), (0, a1), (0, i1), (0, i2), (9, 0)] (if v.1 = 9 then [] else v :: []) m' Q)) ?_ (fun _ _ h => h)
              generalize hQ1 : (fun v m' => zW E (d) 197 65 [(2, 69), (0, a0), (0, a1), (0, i1), (0, i2), (9, 0)] (if v.1 = 9 then [] else v :: []) m' Q) = Q1
              show zW E (d - 1) 144 0 [(2, 69), (0, i2), (0, 2)] [] m0 Q1
              refine zw_7 zr_144_0 rfl ?_
              refine zw_46r (s := 70) zr_144_1 rfl rfl rfl rfl ?_
              refine zw_push zr_144_4 ?_
              refine zw_push zr_144_6 ?_
              refine zw_3 zr_144_8 rfl ?_
              refine zw_18 zr_144_9 (by omega) ?_
              refine zw_16 zr_144_10 (by omega) ?_
              refine zw_3 zr_144_11 rfl ?_
              refine zw_16 zr_144_12 (by omega) ?_
              refine zw_48k (c := 70) (len := 826) zr_144_13 rfl rfl (by omega) (by omega) rfl ex38.symm ?_
              refine zw_R zr_144_14 (by decide) zm_144 (v := (0, x38)) rfl ?_
              rw [← hQ1]
              show zW E (d) 197 65 [(2, 69), (0, a0), (0, a1), (0, i1), (0, i2), (9, 0)] [(0, x38)] m0 Q
              refine zw_3 zr_197_65 rfl ?_
              refine zw_41_4 zr_197_66 ?_ ?_
              · intro h46
                refine zw_push zr_197_83 ?_
                refine zw_10 (L' := [(2, 69), (0, a0), (0, a1), (0, i1), (0, i2), (0, 0)]) zr_197_84 (Nat.le_of_ble_eq_true rfl) rfl ?_
                refine zw_3 zr_197_86 rfl ?_
                refine zw_40_4 zr_197_87 ?_ ?_
                · intro h47
                  refine zw_push zr_197_105 ?_
                  refine zw_42 zr_197_106 ?_
                  refine zw_9 (L' := [(2, 69), (0, a0), (0, a1), (0, 1), (0, i2), (0, 0)]) zr_197_110 (Nat.le_of_ble_eq_true rfl) rfl ?_
                  refine zw_15 (c := 1) (L' := [(2, 69), (0, a0), (0, a1), (0, 1), (0, (i2 + 1)), (0, 0)]) zr_197_111 rfl (by decide) (by omega) rfl ?_
                  refine zw_42 zr_197_114 ?_
                  exact zw_less (L := [(2, 69), (0, a0), (0, a1), (0, 1), (0, (i2 + 1)), (9, 0)]) ⟨Or.inr rfl, Or.inr rfl, Or.inr rfl, Or.inr rfl, Or.inr rfl, Or.inl rfl, trivial⟩ (ihlp5_3 (1) ((i2 + 1))  (by omega) (by omega) (by omega) (by omega)  (by omega))
                · intro h48
                  refine zw_4 zr_197_90 rfl ?_
                  refine zw_40_1 zr_197_92 ?_ ?_
                  · intro h49
                    refine zw_push zr_197_109 ?_
                    refine zw_9 (L' := [(2, 69), (0, a0), (0, a1), (0, 0), (0, i2), (0, 0)]) zr_197_110 (Nat.le_of_ble_eq_true rfl) rfl ?_
                    refine zw_15 (c := 1) (L' := [(2, 69), (0, a0), (0, a1), (0, 0), (0, (i2 + 1)), (0, 0)]) zr_197_111 rfl (by decide) (by omega) rfl ?_
                    refine zw_42 zr_197_114 ?_
                    exact zw_less (L := [(2, 69), (0, a0), (0, a1), (0, 0), (0, (i2 + 1)), (9, 0)]) ⟨Or.inr rfl, Or.inr rfl, Or.inr rfl, Or.inr rfl, Or.inr rfl, Or.inl rfl, trivial⟩ (ihlp5_3 (0) ((i2 + 1))  (by omega) (by omega) (by omega) (by omega)  (by omega))
                  · intro h50; omega
              · intro h51
                refine zw_7 zr_197_69 rfl ?_
                refine zw_4 zr_197_70 rfl ?_
                refine zw_push zr_197_72 ?_
                refine zw_C zr_197_73 (Or.inl rfl) zm_144 rfl rfl ⟨Nat.le_of_ble_eq_true rfl, Nat.le_of_ble_eq_true rfl, Nat.le_of_ble_eq_true rfl, rfl, by decide⟩ (by omega) (P := (fun v m' => zW E (d) 197 76 [(2, 69), (0, a0), (0, a1), (0, i1), (0, i2), (9, 0)] (if v.1 = 9 then [] else v :: []) m' Q)) ?_ (fun _ _ h => h)
                generalize hQ1 : (fun v m' => zW E (d) 197 76 [(2, 69), (0, a0), (0, a1), (0, i1), (0, i2), (9, 0)] (if v.1 = 9 then [] else v :: []) m' Q) = Q1
                show zW E (d - 1) 144 0 [(2, 69), (0, i2), (0, 3)] [] m0 Q1
                refine zw_7 zr_144_0 rfl ?_
                refine zw_46r (s := 70) zr_144_1 rfl rfl rfl rfl ?_
                refine zw_push zr_144_4 ?_
                refine zw_push zr_144_6 ?_
                refine zw_3 zr_144_8 rfl ?_
                refine zw_18 zr_144_9 (by omega) ?_
                refine zw_16 zr_144_10 (by omega) ?_
                refine zw_3 zr_144_11 rfl ?_
                refine zw_16 zr_144_12 (by omega) ?_
                refine zw_48 (c := 70) (len := 826) zr_144_13 rfl rfl (by omega) (by omega) ?_
                intro x52 ex52
                have bx52 := ib_70_m3 hI0 (k := (((90 + (6 * i2)) + 3)).toNat) (by omega)
                rw [← ex52] at bx52
                refine zw_R zr_144_14 (by decide) zm_144 (v := (0, x52)) rfl ?_
                rw [← hQ1]
                show zW E (d) 197 76 [(2, 69), (0, a0), (0, a1), (0, i1), (0, i2), (9, 0)] [(0, x52)] m0 Q
                refine zw_40_4 zr_197_76 ?_ ?_
                · intro h53
                  refine zw_push zr_197_83 ?_
                  refine zw_10 (L' := [(2, 69), (0, a0), (0, a1), (0, i1), (0, i2), (0, 0)]) zr_197_84 (Nat.le_of_ble_eq_true rfl) rfl ?_
                  refine zw_3 zr_197_86 rfl ?_
                  refine zw_40_4 zr_197_87 ?_ ?_
                  · intro h54
                    refine zw_push zr_197_105 ?_
                    refine zw_42 zr_197_106 ?_
                    refine zw_9 (L' := [(2, 69), (0, a0), (0, a1), (0, 1), (0, i2), (0, 0)]) zr_197_110 (Nat.le_of_ble_eq_true rfl) rfl ?_
                    refine zw_15 (c := 1) (L' := [(2, 69), (0, a0), (0, a1), (0, 1), (0, (i2 + 1)), (0, 0)]) zr_197_111 rfl (by decide) (by omega) rfl ?_
                    refine zw_42 zr_197_114 ?_
                    exact zw_less (L := [(2, 69), (0, a0), (0, a1), (0, 1), (0, (i2 + 1)), (9, 0)]) ⟨Or.inr rfl, Or.inr rfl, Or.inr rfl, Or.inr rfl, Or.inr rfl, Or.inl rfl, trivial⟩ (ihlp5_3 (1) ((i2 + 1))  (by omega) (by omega) (by omega) (by omega)  (by omega))
                  · intro h55
                    refine zw_4 zr_197_90 rfl ?_
                    refine zw_40_1 zr_197_92 ?_ ?_
                    · intro h56
                      refine zw_push zr_197_109 ?_
                      refine zw_9 (L' := [(2, 69), (0, a0), (0, a1), (0, 0), (0, i2), (0, 0)]) zr_197_110 (Nat.le_of_ble_eq_true rfl) rfl ?_
                      refine zw_15 (c := 1) (L' := [(2, 69), (0, a0), (0, a1), (0, 0), (0, (i2 + 1)), (0, 0)]) zr_197_111 rfl (by decide) (by omega) rfl ?_
                      refine zw_42 zr_197_114 ?_
                      exact zw_less (L := [(2, 69), (0, a0), (0, a1), (0, 0), (0, (i2 + 1)), (9, 0)]) ⟨Or.inr rfl, Or.inr rfl, Or.inr rfl, Or.inr rfl, Or.inr rfl, Or.inl rfl, trivial⟩ (ihlp5_3 (0) ((i2 + 1))  (by omega) (by omega) (by omega) (by omega)  (by omega))
                    · intro h57; omega
                · intro h58
                  refine zw_push zr_197_79 ?_
                  refine zw_42 zr_197_80 ?_
                  refine zw_10 (L' := [(2, 69), (0, a0), (0, a1), (0, i1), (0, i2), (0, 1)]) zr_197_84 (Nat.le_of_ble_eq_true rfl) rfl ?_
                  refine zw_3 zr_197_86 rfl ?_
                  refine zw_40_4 zr_197_87 ?_ ?_
                  · intro h59
                    refine zw_push zr_197_105 ?_
                    refine zw_42 zr_197_106 ?_
                    refine zw_9 (L' := [(2, 69), (0, a0), (0, a1), (0, 1), (0, i2), (0, 1)]) zr_197_110 (Nat.le_of_ble_eq_true rfl) rfl ?_
                    refine zw_15 (c := 1) (L' := [(2, 69), (0, a0), (0, a1), (0, 1), (0, (i2 + 1)), (0, 1)]) zr_197_111 rfl (by decide) (by omega) rfl ?_
                    refine zw_42 zr_197_114 ?_
                    exact zw_less (L := [(2, 69), (0, a0), (0, a1), (0, 1), (0, (i2 + 1)), (9, 0)]) ⟨Or.inr rfl, Or.inr rfl, Or.inr rfl, Or.inr rfl, Or.inr rfl, Or.inl rfl, trivial⟩ (ihlp5_3 (1) ((i2 + 1))  (by omega) (by omega) (by omega) (by omega)  (by omega))
                  · intro h60
                    refine zw_4 zr_197_90 rfl ?_
                    refine zw_40_1 zr_197_92 ?_ ?_
                    · intro h61; omega
                    · intro h62
                      refine zw_7 zr_197_95 rfl ?_
                      refine zw_4 zr_197_96 rfl ?_
                      refine zw_push zr_197_98 ?_
                      refine zw_C zr_197_99 (Or.inl rfl) zm_144 rfl rfl ⟨Nat.le_of_ble_eq_true rfl, Nat.le_of_ble_eq_true rfl, Nat.le_of_ble_eq_true rfl, rfl, by decide⟩ (by omega) (P := (fun v m' => zW E (d) 197 102 [(2, 69), (0, a0), (0, a1), (0, i1), (0, i2), (0, 1)] (if v.1 = 9 then [] else v :: []) m' Q)) ?_ (fun _ _ h => h)
                      generalize hQ1 : (fun v m' => zW E (d) 197 102 [(2, 69), (0, a0), (0, a1), (0, i1), (0, i2), (0, 1)] (if v.1 = 9 then [] else v :: []) m' Q) = Q1
                      show zW E (d - 1) 144 0 [(2, 69), (0, i2), (0, 4)] [] m0 Q1
                      refine zw_7 zr_144_0 rfl ?_
                      refine zw_46r (s := 70) zr_144_1 rfl rfl rfl rfl ?_
                      refine zw_push zr_144_4 ?_
                      refine zw_push zr_144_6 ?_
                      refine zw_3 zr_144_8 rfl ?_
                      refine zw_18 zr_144_9 (by omega) ?_
                      refine zw_16 zr_144_10 (by omega) ?_
                      refine zw_3 zr_144_11 rfl ?_
                      refine zw_16 zr_144_12 (by omega) ?_
                      refine zw_48 (c := 70) (len := 826) zr_144_13 rfl rfl (by omega) (by omega) ?_
                      intro x63 ex63
                      have bx63 := ib_70_m4 hI0 (k := (((90 + (6 * i2)) + 4)).toNat) (by omega)
                      rw [← ex63] at bx63
                      refine zw_R zr_144_14 (by decide) zm_144 (v := (0, x63)) rfl ?_
                      rw [← hQ1]
                      show zW E (d) 197 102 [(2, 69), (0, a0), (0, a1), (0, i1), (0, i2), (0, 1)] [(0, x63)] m0 Q
                      refine zw_40_4 zr_197_102 ?_ ?_
                      · intro h64
                        refine zw_push zr_197_109 ?_
                        refine zw_9 (L' := [(2, 69), (0, a0), (0, a1), (0, 0), (0, i2), (0, 1)]) zr_197_110 (Nat.le_of_ble_eq_true rfl) rfl ?_
                        refine zw_15 (c := 1) (L' := [(2, 69), (0, a0), (0, a1), (0, 0), (0, (i2 + 1)), (0, 1)]) zr_197_111 rfl (by decide) (by omega) rfl ?_
                        refine zw_42 zr_197_114 ?_
                        exact zw_less (L := [(2, 69), (0, a0), (0, a1), (0, 0), (0, (i2 + 1)), (9, 0)]) ⟨Or.inr rfl, Or.inr rfl, Or.inr rfl, Or.inr rfl, Or.inr rfl, Or.inl rfl, trivial⟩ (ihlp5_3 (0) ((i2 + 1))  (by omega) (by omega) (by omega) (by omega)  (by omega))
                      · intro h65
                        refine zw_push zr_197_105 ?_
                        refine zw_42 zr_197_106 ?_
                        refine zw_9 (L' := [(2, 69), (0, a0), (0, a1), (0, 1), (0, i2), (0, 1)]) zr_197_110 (Nat.le_of_ble_eq_true rfl) rfl ?_
                        refine zw_15 (c := 1) (L' := [(2, 69), (0, a0), (0, a1), (0, 1), (0, (i2 + 1)), (0, 1)]) zr_197_111 rfl (by decide) (by omega) rfl ?_
                        refine zw_42 zr_197_114 ?_
                        exact zw_less (L := [(2, 69), (0, a0), (0, a1), (0, 1), (0, (i2 + 1)), (9, 0)]) ⟨Or.inr rfl, Or.inr rfl, Or.inr rfl, Or.inr rfl, Or.inr rfl, Or.inl rfl, trivial⟩ (ihlp5_3 (1) ((i2 + 1))  (by omega) (by omega) (by omega) (by omega)  (by omega))
          · intro h66
            refine zw_7 zr_197_36 rfl ?_
            refine zw_4 zr_197_37 rfl ?_
            refine zw_push zr_197_39 ?_
            refine zw_C zr_197_40 (Or.inl rfl) zm_144 rfl rfl ⟨Nat.le_of_ble_eq_true rfl, Nat.le_of_ble_eq_true rfl, Nat.le_of_ble_eq_true rfl, rfl, by decide⟩ (by omega) (P := (fun v m' => zW E (d) 197 43 [(2, 69), (0, a0), (0, a1), (0, i1), (0, i2), (9, 0)] (if v.1 = 9 then [] else v :: []) m' Q)) ?_ (fun _ _ h => h)
            generalize hQ1 : (fun v m' => zW E (d) 197 43 [(2, 69), (0, a0), (0, a1), (0, i1), (0, i2), (9, 0)] (if v.1 = 9 then [] else v :: []) m' Q) = Q1
            show zW E (d - 1) 144 0 [(2, 69), (0, i2), (0, 3)] [] m0 Q1
            refine zw_7 zr_144_0 rfl ?_
            refine zw_46r (s := 70) zr_144_1 rfl rfl rfl rfl ?_
            refine zw_push zr_144_4 ?_
            refine zw_push zr_144_6 ?_
            refine zw_3 zr_144_8 rfl ?_
            refine zw_18 zr_144_9 (by omega) ?_
            refine zw_16 zr_144_10 (by omega) ?_
            refine zw_3 zr_144_11 rfl ?_
            refine zw_16 zr_144_12 (by omega) ?_
            refine zw_48 (c := 70) (len := 826) zr_144_13 rfl rfl (by omega) (by omega) ?_
            intro x67 ex67
            have bx67 := ib_70_m3 hI0 (k := (((90 + (6 * i2)) + 3)).toNat) (by omega)
            rw [← ex67] at bx67
            refine zw_R zr_144_14 (by decide) zm_144 (v := (0, x67)) rfl ?_
            rw [← hQ1]
            show zW E (d) 197 43 [(2, 69), (0, a0), (0, a1), (0, i1), (0, i2), (9, 0)] [(0, x67)] m0 Q
            refine zw_push zr_197_43 ?_
            refine zw_41_1 zr_197_44 ?_ ?_
            · intro h68
              refine zw_push zr_197_79 ?_
              refine zw_42 zr_197_80 ?_
              refine zw_10 (L' := [(2, 69), (0, a0), (0, a1), (0, i1), (0, i2), (0, 1)]) zr_197_84 (Nat.le_of_ble_eq_true rfl) rfl ?_
              refine zw_3 zr_197_86 rfl ?_
              refine zw_40_4 zr_197_87 ?_ ?_
              · intro h69
                refine zw_push zr_197_105 ?_
                refine zw_42 zr_197_106 ?_
                refine zw_9 (L' := [(2, 69), (0, a0), (0, a1), (0, 1), (0, i2), (0, 1)]) zr_197_110 (Nat.le_of_ble_eq_true rfl) rfl ?_
                refine zw_15 (c := 1) (L' := [(2, 69), (0, a0), (0, a1), (0, 1), (0, (i2 + 1)), (0, 1)]) zr_197_111 rfl (by decide) (by omega) rfl ?_
                refine zw_42 zr_197_114 ?_
                exact zw_less (L := [(2, 69), (0, a0), (0, a1), (0, 1), (0, (i2 + 1)), (9, 0)]) ⟨Or.inr rfl, Or.inr rfl, Or.inr rfl, Or.inr rfl, Or.inr rfl, Or.inl rfl, trivial⟩ (ihlp5_3 (1) ((i2 + 1))  (by omega) (by omega) (by omega) (by omega)  (by omega))
              · intro h70
                refine zw_4 zr_197_90 rfl ?_
                refine zw_40_1 zr_197_92 ?_ ?_
                · intro h71; omega
                · intro h72
                  refine zw_7 zr_197_95 rfl ?_
                  refine zw_4 zr_197_96 rfl ?_
                  refine zw_push zr_197_98 ?_
                  refine zw_C zr_197_99 (Or.inl rfl) zm_144 rfl rfl ⟨Nat.le_of_ble_eq_true rfl, Nat.le_of_ble_eq_true rfl, Nat.le_of_ble_eq_true rfl, rfl, by decide⟩ (by omega) (P := (fun v m' => zW E (d) 197 102 [(2, 69), (0, a0), (0, a1), (0, i1), (0, i2), (0, 1)] (if v.1 = 9 then [] else v :: []) m' Q)) ?_ (fun _ _ h => h)
                  generalize hQ1 : (fun v m' => zW E (d) 197 102 [(2, 69), (0, a0), (0, a1), (0, i1), (0, i2), (0, 1)] (if v.1 = 9 then [] else v :: []) m' Q) = Q1
                  show zW E (d - 1) 144 0 [(2, 69), (0, i2), (0, 4)] [] m0 Q1
                  refine zw_7 zr_144_0 rfl ?_
                  refine zw_46r (s := 70) zr_144_1 rfl rfl rfl rfl ?_
                  refine zw_push zr_144_4 ?_
                  refine zw_push zr_144_6 ?_
                  refine zw_3 zr_144_8 rfl ?_
                  refine zw_18 zr_144_9 (by omega) ?_
                  refine zw_16 zr_144_10 (by omega) ?_
                  refine zw_3 zr_144_11 rfl ?_
                  refine zw_16 zr_144_12 (by omega) ?_
                  refine zw_48 (c := 70) (len := 826) zr_144_13 rfl rfl (by omega) (by omega) ?_
                  intro x73 ex73
                  have bx73 := ib_70_m4 hI0 (k := (((90 + (6 * i2)) + 4)).toNat) (by omega)
                  rw [← ex73] at bx73
                  refine zw_R zr_144_14 (by decide) zm_144 (v := (0, x73)) rfl ?_
                  rw [← hQ1]
                  show zW E (d) 197 102 [(2, 69), (0, a0), (0, a1), (0, i1), (0, i2), (0, 1)] [(0, x73)] m0 Q
                  refine zw_40_4 zr_197_102 ?_ ?_
                  · intro h74
                    refine zw_push zr_197_109 ?_
                    refine zw_9 (L' := [(2, 69), (0, a0), (0, a1), (0, 0), (0, i2), (0, 1)]) zr_197_110 (Nat.le_of_ble_eq_true rfl) rfl ?_
                    refine zw_15 (c := 1) (L' := [(2, 69), (0, a0), (0, a1), (0, 0), (0, (i2 + 1)), (0, 1)]) zr_197_111 rfl (by decide) (by omega) rfl ?_
                    refine zw_42 zr_197_114 ?_
                    exact zw_less (L := [(2, 69), (0, a0), (0, a1), (0, 0), (0, (i2 + 1)), (9, 0)]) ⟨Or.inr rfl, Or.inr rfl, Or.inr rfl, Or.inr rfl, Or.inr rfl, Or.inl rfl, trivial⟩ (ihlp5_3 (0) ((i2 + 1))  (by omega) (by omega) (by omega) (by omega)  (by omega))
                  · intro h75
                    refine zw_push zr_197_105 ?_
                    refine zw_42 zr_197_106 ?_
                    refine zw_9 (L' := [(2, 69), (0, a0), (0, a1), (0, 1), (0, i2), (0, 1)]) zr_197_110 (Nat.le_of_ble_eq_true rfl) rfl ?_
                    refine zw_15 (c := 1) (L' := [(2, 69), (0, a0), (0, a1), (0, 1), (0, (i2 + 1)), (0, 1)]) zr_197_111 rfl (by decide) (by omega) rfl ?_
                    refine zw_42 zr_197_114 ?_
                    exact zw_less (L := [(2, 69), (0, a0), (0, a1), (0, 1), (0, (i2 + 1)), (9, 0)]) ⟨Or.inr rfl, Or.inr rfl, Or.inr rfl, Or.inr rfl, Or.inr rfl, Or.inl rfl, trivial⟩ (ihlp5_3 (1) ((i2 + 1))  (by omega) (by omega) (by omega) (by omega)  (by omega))
            · intro h76
              refine zw_7 zr_197_47 rfl ?_
              refine zw_4 zr_197_48 rfl ?_
              refine zw_push zr_197_50 ?_
              refine zw_C zr_197_51 (Or.inl rfl) zm_144 rfl rfl ⟨Nat.le_of_ble_eq_true rfl, Nat.le_of_ble_eq_true rfl, Nat.le_of_ble_eq_true rfl, rfl, by decide⟩ (by omega) (P := (fun v m' => zW E (d) 197 54 [(2, 69), (0, a0), (0, a1), (0, i1), (0, i2), (9, 0)] (if v.1 = 9 then [] else v :: []) m' Q)) ?_ (fun _ _ h => h)
              generalize hQ1 : (fun v m' => zW E (d) 197 54 [(2, 69), (0, a0), (0, a1), (0, i1), (0, i2), (9, 0)] (if v.1 = 9 then [] else v :: []) m' Q) = Q1
              show zW E (d - 1) 144 0 [(2, 69), (0, i2), (0, 1)] [] m0 Q1
              refine zw_7 zr_144_0 rfl ?_
              refine zw_46r (s := 70) zr_144_1 rfl rfl rfl rfl ?_
              refine zw_push zr_144_4 ?_
              refine zw_push zr_144_6 ?_
              refine zw_3 zr_144_8 rfl ?_
              refine zw_18 zr_144_9 (by omega) ?_
              refine zw_16 zr_144_10 (by omega) ?_
              refine zw_3 zr_144_11 rfl ?_
              refine zw_16 zr_144_12 (by omega) ?_
              refine zw_48k (c := 70) (len := 826) zr_144_13 rfl rfl (by omega) (by omega) rfl ex8.symm ?_
              refine zw_R zr_144_14 (by decide) zm_144 (v := (0, x8)) rfl ?_
              rw [← hQ1]
              show zW E (d) 197 54 [(2, 69), (0, a0), (0, a1), (0, i1), (0, i2), (9, 0)] [(0, x8)] m0 Q
              refine zw_3 zr_197_54 rfl ?_
              refine zw_41_4 zr_197_55 ?_ ?_
              · intro h77
                refine zw_push zr_197_83 ?_
                refine zw_10 (L' := [(2, 69), (0, a0), (0, a1), (0, i1), (0, i2), (0, 0)]) zr_197_84 (Nat.le_of_ble_eq_true rfl) rfl ?_
                refine zw_3 zr_197_86 rfl ?_
                refine zw_40_4 zr_197_87 ?_ ?_
                · intro h78
                  refine zw_push zr_197_105 ?_
                  refine zw_42 zr_197_106 ?_
                  refine zw_9 (L' := [(2, 69), (0, a0), (0, a1), (0, 1), (0, i2), (0, 0)]) zr_197_110 (Nat.le_of_ble_eq_true rfl) rfl ?_
                  refine zw_15 (c := 1) (L' := [(2, 69), (0, a0), (0, a1), (0, 1), (0, (i2 + 1)), (0, 0)]) zr_197_111 rfl (by decide) (by omega) rfl ?_
                  refine zw_42 zr_197_114 ?_
                  exact zw_less (L := [(2, 69), (0, a0), (0, a1), (0, 1), (0, (i2 + 1)), (9, 0)]) ⟨Or.inr rfl, Or.inr rfl, Or.inr rfl, Or.inr rfl, Or.inr rfl, Or.inl rfl, trivial⟩ (ihlp5_3 (1) ((i2 + 1))  (by omega) (by omega) (by omega) (by omega)  (by omega))
                · intro h79
                  refine zw_4 zr_197_90 rfl ?_
                  refine zw_40_1 zr_197_92 ?_ ?_
                  · intro h80
                    refine zw_push zr_197_109 ?_
                    refine zw_9 (L' := [(2, 69), (0, a0), (0, a1), (0, 0), (0, i2), (0, 0)]) zr_197_110 (Nat.le_of_ble_eq_true rfl) rfl ?_
                    refine zw_15 (c := 1) (L' := [(2, 69), (0, a0), (0, a1), (0, 0), (0, (i2 + 1)), (0, 0)]) zr_197_111 rfl (by decide) (by omega) rfl ?_
                    refine zw_42 zr_197_114 ?_
                    exact zw_less (L := [(2, 69), (0, a0), (0, a1), (0, 0), (0, (i2 + 1)), (9, 0)]) ⟨Or.inr rfl, Or.inr rfl, Or.inr rfl, Or.inr rfl, Or.inr rfl, Or.inl rfl, trivial⟩ (ihlp5_3 (0) ((i2 + 1))  (by omega) (by omega) (by omega) (by omega)  (by omega))
                  · intro h81; omega
              · intro h82
                refine zw_7 zr_197_58 rfl ?_
                refine zw_4 zr_197_59 rfl ?_
                refine zw_push zr_197_61 ?_
                refine zw_C zr_197_62 (Or.inl rfl) zm_144 rfl rfl ⟨Nat.le_of_ble_eq_true rfl, Nat.le_of_ble_eq_true rfl, Nat.le_of_ble_eq_true rfl, rfl, by decide⟩ (by omega) (P := (fun v m' => zW E (d) 197 65 [(2, 69), (0, a0), (0, a1), (0, i1), (0, i2), (9, 0)] (if v.1 = 9 then [] else v :: []) m' Q)) ?_ (fun _ _ h => h)
                generalize hQ1 : (fun v m' => zW E (d) 197 65 [(2, 69), (0, a0), (0, a1), (0, i1), (0, i2), (9, 0)] (if v.1 = 9 then [] else v :: []) m' Q) = Q1
                show zW E (d - 1) 144 0 [(2, 69), (0, i2), (0, 2)] [] m0 Q1
                refine zw_7 zr_144_0 rfl ?_
                refine zw_46r (s := 70) zr_144_1 rfl rfl rfl rfl ?_
                refine zw_push zr_144_4 ?_
                refine zw_push zr_144_6 ?_
                refine zw_3 zr_144_8 rfl ?_
                refine zw_18 zr_144_9 (by omega) ?_
                refine zw_16 zr_144_10 (by omega) ?_
                refine zw_3 zr_144_11 rfl ?_
                refine zw_16 zr_144_12 (by omega) ?_
                refine zw_48k (c := 70) (len := 826) zr_144_13 rfl rfl (by omega) (by omega) rfl ex38.symm ?_
                refine zw_R zr_144_14 (by decide) zm_144 (v := (0, x38)) rfl ?_
                rw [← hQ1]
                show zW E (d) 197 65 [(2, 69), (0, a0), (0, a1), (0, i1), (0, i2), (9, 0)] [(0, x38)] m0 Q
                refine zw_3 zr_197_65 rfl ?_
                refine zw_41_4 zr_197_66 ?_ ?_
                · intro h83
                  refine zw_push zr_197_83 ?_
                  refine zw_10 (L' := [(2, 69), (0, a0), (0, a1), (0, i1), (0, i2), (0, 0)]) zr_197_84 (Nat.le_of_ble_eq_true rfl) rfl ?_
                  refine zw_3 zr_197_86 rfl ?_
                  refine zw_40_4 zr_197_87 ?_ ?_
                  · intro h84
                    refine zw_push zr_197_105 ?_
                    refine zw_42 zr_197_106 ?_
                    refine zw_9 (L' := [(2, 69), (0, a0), (0, a1), (0, 1), (0, i2), (0, 0)]) zr_197_110 (Nat.le_of_ble_eq_true rfl) rfl ?_
                    refine zw_15 (c := 1) (L' := [(2, 69), (0, a0), (0, a1), (0, 1), (0, (i2 + 1)), (0, 0)]) zr_197_111 rfl (by decide) (by omega) rfl ?_
                    refine zw_42 zr_197_114 ?_
                    exact zw_less (L := [(2, 69), (0, a0), (0, a1), (0, 1), (0, (i2 + 1)), (9, 0)]) ⟨Or.inr rfl, Or.inr rfl, Or.inr rfl, Or.inr rfl, Or.inr rfl, Or.inl rfl, trivial⟩ (ihlp5_3 (1) ((i2 + 1))  (by omega) (by omega) (by omega) (by omega)  (by omega))
                  · intro h85
                    refine zw_4 zr_197_90 rfl ?_
                    refine zw_40_1 zr_197_92 ?_ ?_
                    · intro h86
                      refine zw_push zr_197_109 ?_
                      refine zw_9 (L' := [(2, 69), (0, a0), (0, a1), (0, 0), (0, i2), (0, 0)]) zr_197_110 (Nat.le_of_ble_eq_true rfl) rfl ?_
                      refine zw_15 (c := 1) (L' := [(2, 69), (0, a0), (0, a1), (0, 0), (0, (i2 + 1)), (0, 0)]) zr_197_111 rfl (by decide) (by omega) rfl ?_
                      refine zw_42 zr_197_114 ?_
                      exact zw_less (L := [(2, 69), (0, a0), (0, a1), (0, 0), (0, (i2 + 1)), (9, 0)]) ⟨Or.inr rfl, Or.inr rfl, Or.inr rfl, Or.inr rfl, Or.inr rfl, Or.inl rfl, trivial⟩ (ihlp5_3 (0) ((i2 + 1))  (by omega) (by omega) (by omega) (by omega)  (by omega))
                    · intro h87; omega
                · intro h88
                  refine zw_7 zr_197_69 rfl ?_
                  refine zw_4 zr_197_70 rfl ?_
                  refine zw_push zr_197_72 ?_
                  refine zw_C zr_197_73 (Or.inl rfl) zm_144 rfl rfl ⟨Nat.le_of_ble_eq_true rfl, Nat.le_of_ble_eq_true rfl, Nat.le_of_ble_eq_true rfl, rfl, by decide⟩ (by omega) (P := (fun v m' => zW E (d) 197 76 [(2, 69), (0, a0), (0, a1), (0, i1), (0, i2), (9, 0)] (if v.1 = 9 then [] else v :: []) m' Q)) ?_ (fun _ _ h => h)
                  generalize hQ1 : (fun v m' => zW E (d) 197 76 [(2, 69), (0, a0), (0, a1), (0, i1), (0, i2), (9, 0)] (if v.1 = 9 then [] else v :: []) m' Q) = Q1
                  show zW E (d - 1) 144 0 [(2, 69), (0, i2), (0, 3)] [] m0 Q1
                  refine zw_7 zr_144_0 rfl ?_
                  refine zw_46r (s := 70) zr_144_1 rfl rfl rfl rfl ?_
                  refine zw_push zr_144_4 ?_
                  refine zw_push zr_144_6 ?_
                  refine zw_3 zr_144_8 rfl ?_
                  refine zw_18 zr_144_9 (by omega) ?_
                  refine zw_16 zr_144_10 (by omega) ?_
                  refine zw_3 zr_144_11 rfl ?_
                  refine zw_16 zr_144_12 (by omega) ?_
                  refine zw_48k (c := 70) (len := 826) zr_144_13 rfl rfl (by omega) (by omega) rfl ex67.symm ?_
                  refine zw_R zr_144_14 (by decide) zm_144 (v := (0, x67)) rfl ?_
                  rw [← hQ1]
                  show zW E (d) 197 76 [(2, 69), (0, a0), (0, a1), (0, i1), (0, i2), (9, 0)] [(0, x67)] m0 Q
                  refine zw_40_4 zr_197_76 ?_ ?_
                  · intro h89
                    refine zw_push zr_197_83 ?_
                    refine zw_10 (L' := [(2, 69), (0, a0), (0, a1), (0, i1), (0, i2), (0, 0)]) zr_197_84 (Nat.le_of_ble_eq_true rfl) rfl ?_
                    refine zw_3 zr_197_86 rfl ?_
                    refine zw_40_4 zr_197_87 ?_ ?_
                    · intro h90
                      refine zw_push zr_197_105 ?_
                      refine zw_42 zr_197_106 ?_
                      refine zw_9 (L' := [(2, 69), (0, a0), (0, a1), (0, 1), (0, i2), (0, 0)]) zr_197_110 (Nat.le_of_ble_eq_true rfl) rfl ?_
                      refine zw_15 (c := 1) (L' := [(2, 69), (0, a0), (0, a1), (0, 1), (0, (i2 + 1)), (0, 0)]) zr_197_111 rfl (by decide) (by omega) rfl ?_
                      refine zw_42 zr_197_114 ?_
                      exact zw_less (L := [(2, 69), (0, a0), (0, a1), (0, 1), (0, (i2 + 1)), (9, 0)]) ⟨Or.inr rfl, Or.inr rfl, Or.inr rfl, Or.inr rfl, Or.inr rfl, Or.inl rfl, trivial⟩ (ihlp5_3 (1) ((i2 + 1))  (by omega) (by omega) (by omega) (by omega)  (by omega))
                    · intro h91
                      refine zw_4 zr_197_90 rfl ?_
                      refine zw_40_1 zr_197_92 ?_ ?_
                      · intro h92
                        refine zw_push zr_197_109 ?_
                        refine zw_9 (L' := [(2, 69), (0, a0), (0, a1), (0, 0), (0, i2), (0, 0)]) zr_197_110 (Nat.le_of_ble_eq_true rfl) rfl ?_
                        refine zw_15 (c := 1) (L' := [(2, 69), (0, a0), (0, a1), (0, 0), (0, (i2 + 1)), (0, 0)]) zr_197_111 rfl (by decide) (by omega) rfl ?_
                        refine zw_42 zr_197_114 ?_
                        exact zw_less (L := [(2, 69), (0, a0), (0, a1), (0, 0), (0, (i2 + 1)), (9, 0)]) ⟨Or.inr rfl, Or.inr rfl, Or.inr rfl, Or.inr rfl, Or.inr rfl, Or.inl rfl, trivial⟩ (ihlp5_3 (0) ((i2 + 1))  (by omega) (by omega) (by omega) (by omega)  (by omega))
                      · intro h93; omega
                  · intro h94
                    refine zw_push zr_197_79 ?_
                    refine zw_42 zr_197_80 ?_
                    refine zw_10 (L' := [(2, 69), (0, a0), (0, a1), (0, i1), (0, i2), (0, 1)]) zr_197_84 (Nat.le_of_ble_eq_true rfl) rfl ?_
                    refine zw_3 zr_197_86 rfl ?_
                    refine zw_40_4 zr_197_87 ?_ ?_
                    · intro h95
                      refine zw_push zr_197_105 ?_
                      refine zw_42 zr_197_106 ?_
                      refine zw_9 (L' := [(2, 69), (0, a0), (0, a1), (0, 1), (0, i2), (0, 1)]) zr_197_110 (Nat.le_of_ble_eq_true rfl) rfl ?_
                      refine zw_15 (c := 1) (L' := [(2, 69), (0, a0), (0, a1), (0, 1), (0, (i2 + 1)), (0, 1)]) zr_197_111 rfl (by decide) (by omega) rfl ?_
                      refine zw_42 zr_197_114 ?_
                      exact zw_less (L := [(2, 69), (0, a0), (0, a1), (0, 1), (0, (i2 + 1)), (9, 0)]) ⟨Or.inr rfl, Or.inr rfl, Or.inr rfl, Or.inr rfl, Or.inr rfl, Or.inl rfl, trivial⟩ (ihlp5_3 (1) ((i2 + 1))  (by omega) (by omega) (by omega) (by omega)  (by omega))
                    · intro h96
                      refine zw_4 zr_197_90 rfl ?_
                      refine zw_40_1 zr_197_92 ?_ ?_
                      · intro h97; omega
                      · intro h98
                        refine zw_7 zr_197_95 rfl ?_
                        refine zw_4 zr_197_96 rfl ?_
                        refine zw_push zr_197_98 ?_
                        refine zw_C zr_197_99 (Or.inl rfl) zm_144 rfl rfl ⟨Nat.le_of_ble_eq_true rfl, Nat.le_of_ble_eq_true rfl, Nat.le_of_ble_eq_true rfl, rfl, by decide⟩ (by omega) (P := (fun v m' => zW E (d) 197 102 [(2, 69), (0, a0), (0, a1), (0, i1), (0, i2), (0, 1)] (if v.1 = 9 then [] else v :: []) m' Q)) ?_ (fun _ _ h => h)
                        generalize hQ1 : (fun v m' => zW E (d) 197 102 [(2, 69), (0, a0), (0, a1), (0, i1), (0, i2), (0, 1)] (if v.1 = 9 then [] else v :: []) m' Q) = Q1
                        show zW E (d - 1) 144 0 [(2, 69), (0, i2), (0, 4)] [] m0 Q1
                        refine zw_7 zr_144_0 rfl ?_
                        refine zw_46r (s := 70) zr_144_1 rfl rfl rfl rfl ?_
                        refine zw_push zr_144_4 ?_
                        refine zw_push zr_144_6 ?_
                        refine zw_3 zr_144_8 rfl ?_
                        refine zw_18 zr_144_9 (by omega) ?_
                        refine zw_16 zr_144_10 (by omega) ?_
                        refine zw_3 zr_144_11 rfl ?_
                        refine zw_16 zr_144_12 (by omega) ?_
                        refine zw_48 (c := 70) (len := 826) zr_144_13 rfl rfl (by omega) (by omega) ?_
                        intro x99 ex99
                        have bx99 := ib_70_m4 hI0 (k := (((90 + (6 * i2)) + 4)).toNat) (by omega)
                        rw [← ex99] at bx99
                        refine zw_R zr_144_14 (by decide) zm_144 (v := (0, x99)) rfl ?_
                        rw [← hQ1]
                        show zW E (d) 197 102 [(2, 69), (0, a0), (0, a1), (0, i1), (0, i2), (0, 1)] [(0, x99)] m0 Q
                        refine zw_40_4 zr_197_102 ?_ ?_
                        · intro h100
                          refine zw_push zr_197_109 ?_
                          refine zw_9 (L' := [(2, 69), (0, a0), (0, a1), (0, 0), (0, i2), (0, 1)]) zr_197_110 (Nat.le_of_ble_eq_true rfl) rfl ?_
                          refine zw_15 (c := 1) (L' := [(2, 69), (0, a0), (0, a1), (0, 0), (0, (i2 + 1)), (0, 1)]) zr_197_111 rfl (by decide) (by omega) rfl ?_
                          refine zw_42 zr_197_114 ?_
                          exact zw_less (L := [(2, 69), (0, a0), (0, a1), (0, 0), (0, (i2 + 1)), (9, 0)]) ⟨Or.inr rfl, Or.inr rfl, Or.inr rfl, Or.inr rfl, Or.inr rfl, Or.inl rfl, trivial⟩ (ihlp5_3 (0) ((i2 + 1))  (by omega) (by omega) (by omega) (by omega)  (by omega))
                        · intro h101
                          refine zw_push zr_197_105 ?_
                          refine zw_42 zr_197_106 ?_
                          refine zw_9 (L' := [(2, 69), (0, a0), (0, a1), (0, 1), (0, i2), (0, 1)]) zr_197_110 (Nat.le_of_ble_eq_true rfl) rfl ?_
                          refine zw_15 (c := 1) (L' := [(2, 69), (0, a0), (0, a1), (0, 1), (0, (i2 + 1)), (0, 1)]) zr_197_111 rfl (by decide) (by omega) rfl ?_
                          refine zw_42 zr_197_114 ?_
                          exact zw_less (L := [(2, 69), (0, a0), (0, a1), (0, 1), (0, (i2 + 1)), (9, 0)]) ⟨Or.inr rfl, Or.inr rfl, Or.inr rfl, Or.inr rfl, Or.inr rfl, Or.inl rfl, trivial⟩ (ihlp5_3 (1) ((i2 + 1))  (by omega) (by omega) (by omega) (by omega)  (by omega))
  exact lp5_3 _ (0) (0)  (by omega) (by omega) (by omega) (by omega)  (Nat.lt_succ_self _)

set_option maxHeartbeats 8000000 in
theorem th_198 {E : zE} {d : Nat} {m0 : zM} (hd : 3 ≤ d) (hI0 : zInv m0) : zC E d 198 [(2, 69)] m0 (fun v m' => ∃ r : Int, v = (0, r) ∧ (-2147483648) ≤ r ∧ r ≤ 2147483647 ∧ m0 = m') := by
  generalize hQ : (fun (v : zV) (m' : zM) => ∃ r : Int, v = (0, r) ∧ (-2147483648) ≤ r ∧ r ≤ 2147483647 ∧ m0 = m') = Q
  show zW E d 198 0 [(2, 69), (9, 0), (9, 0), (9, 0), (9, 0)] [] m0 Q
  refine zw_push zr_198_0 ?_
  refine zw_9 (L' := [(2, 69), (0, 0), (9, 0), (9, 0), (9, 0)]) zr_198_1 (Nat.le_of_ble_eq_true rfl) rfl ?_
  refine zw_push zr_198_2 ?_
  refine zw_9 (L' := [(2, 69), (0, 0), (0, 0), (9, 0), (9, 0)]) zr_198_3 (Nat.le_of_ble_eq_true rfl) rfl ?_
  have lp4_3 : ∀ (nlp4_3 : Nat) (i1 i2 : Int), (-2147483648) ≤ i1 → i1 ≤ 2147483647 → 0 ≤ i2 → i2 ≤ 10 → (10 - i2).toNat < nlp4_3 → zW E (d) 198 4 [(2, 69), (0, i1), (0, i2), (9, 0), (9, 0)] [] m0 Q := by
    intro nlp4_3
    induction nlp4_3 with
    | zero =>
      intros
      exact absurd (by assumption : _ < 0) (Nat.not_lt_zero _)
    | succ nlp4_3 ihlp4_3 =>
      intro i1 i2 li1 ui1 li2 ui2 hmlp4_3
      refine zw_3 zr_198_4 rfl ?_
      refine zw_7 zr_198_5 rfl ?_
      refine zw_C zr_198_6 (Or.inl rfl) zm_141 rfl rfl ⟨Nat.le_of_ble_eq_true rfl, Nat.le_of_ble_eq_true rfl, Nat.le_of_ble_eq_true rfl, rfl, by decide⟩ (by omega) (P := (fun v m' => zW E (d) 198 9 [(2, 69), (0, i1), (0, i2), (9, 0), (9, 0)] (if v.1 = 9 then [(0, i2)] else v :: [(0, i2)]) m' Q)) ?_ (fun _ _ h => h)
      generalize hQ1 : (fun v m' => zW E (d) 198 9 [(2, 69), (0, i1), (0, i2), (9, 0), (9, 0)] (if v.1 = 9 then [(0, i2)] else v :: [(0, i2)]) m' Q) = Q1
      show zW E (d - 1) 141 0 [(2, 69)] [] m0 Q1
      refine zw_7 zr_141_0 rfl ?_
      refine zw_46r (s := 70) zr_141_1 rfl rfl rfl rfl ?_
      refine zw_push zr_141_4 ?_
      obtain ⟨f5, ef5⟩ : ∃ v, m0 70 822 = v := ⟨_, rfl⟩
      have bf5 : 0 ≤ m0 70 822 ∧ m0 70 822 ≤ 10 := ib_70_players hI0 (by omega)
      rw [ef5] at bf5
      refine zw_48k (c := 70) (len := 826) zr_141_7 rfl rfl (by omega) (by omega) (show (822 : Int).toNat = 822 by omega) ef5 ?_
      refine zw_R zr_141_8 (by decide) zm_141 (v := (0, f5)) rfl ?_
      rw [← hQ1]
      show zW E (d) 198 9 [(2, 69), (0, i1), (0, i2), (9, 0), (9, 0)] [(0, f5), (0, i2)] m0 Q
      refine zw_41_3 zr_198_9 ?_ ?_
      · intro h6
        refine zw_3 zr_198_99 rfl ?_
        refine zw_R zr_198_100 (by decide) zm_198 (v := (0, i1)) rfl ?_
        rw [← hQ]; exact ⟨_, rfl, by omega, by omega, rfl⟩
      · intro h7
        refine zw_3 zr_198_12 rfl ?_
        refine zw_push zr_198_13 ?_
        refine zw_16 zr_198_14 (by omega) ?_
        refine zw_9 (L' := [(2, 69), (0, i1), (0, i2), (0, (i2 + 1)), (9, 0)]) zr_198_15 (Nat.le_of_ble_eq_true rfl) rfl ?_
        have lp16_10 : ∀ (nlp16_10 : Nat) (i8 i9 : Int), (-2147483648) ≤ i8 → i8 ≤ 2147483647 → 1 ≤ i9 → i9 ≤ 10 → (10 - i9).toNat < nlp16_10 → zW E (d) 198 16 [(2, 69), (0, i8), (0, i2), (0, i9), (9, 0)] [] m0 Q := by
          intro nlp16_10
          induction nlp16_10 with
          | zero =>
            intros
            exact absurd (by assumption : _ < 0) (Nat.not_lt_zero _)
          | succ nlp16_10 ihlp16_10 =>
            intro i8 i9 li8 ui8 li9 ui9 hmlp16_10
            refine zw_3 zr_198_16 rfl ?_
            refine zw_7 zr_198_17 rfl ?_
            refine zw_C zr_198_18 (Or.inl rfl) zm_141 rfl rfl ⟨Nat.le_of_ble_eq_true rfl, Nat.le_of_ble_eq_true rfl, Nat.le_of_ble_eq_true rfl, rfl, by decide⟩ (by omega) (P := (fun v m' => zW E (d) 198 21 [(2, 69), (0, i8), (0, i2), (0, i9), (9, 0)] (if v.1 = 9 then [(0, i9)] else v :: [(0, i9)]) m' Q)) ?_ (fun _ _ h => h)
            generalize hQ1 : (fun v m' => zW E (d) 198 21 [(2, 69), (0, i8), (0, i2), (0, i9), (9, 0)] (if v.1 = 9 then [(0, i9)] else v :: [(0, i9)]) m' Q) = Q1
            show zW E (d - 1) 141 0 [(2, 69)] [] m0 Q1
            refine zw_7 zr_141_0 rfl ?_
            refine zw_46r (s := 70) zr_141_1 rfl rfl rfl rfl ?_
            refine zw_push zr_141_4 ?_
            refine zw_48k (c := 70) (len := 826) zr_141_7 rfl rfl (by omega) (by omega) (show (822 : Int).toNat = 822 by omega) ef5 ?_
            refine zw_R zr_141_8 (by decide) zm_141 (v := (0, f5)) rfl ?_
            rw [← hQ1]
            show zW E (d) 198 21 [(2, 69), (0, i8), (0, i2), (0, i9), (9, 0)] [(0, f5), (0, i9)] m0 Q
            refine zw_41_3 zr_198_21 ?_ ?_
            · intro h12
              refine zw_15 (c := 1) (L' := [(2, 69), (0, i8), (0, (i2 + 1)), (0, i9), (9, 0)]) zr_198_93 rfl (by decide) (by omega) rfl ?_
              refine zw_42 zr_198_96 ?_
              exact zw_less (L := [(2, 69), (0, i8), (0, (i2 + 1)), (9, 0), (9, 0)]) ⟨Or.inr rfl, Or.inr rfl, Or.inr rfl, Or.inl rfl, Or.inl rfl, trivial⟩ (ihlp4_3 (i8) ((i2 + 1))  (by omega) (by omega) (by omega) (by omega)  (by omega))
            · intro h13
              refine zw_3 zr_198_24 rfl ?_
              refine zw_push zr_198_25 ?_
              refine zw_16 zr_198_26 (by omega) ?_
              refine zw_10 (L' := [(2, 69), (0, i8), (0, i2), (0, i9), (0, (i2 + 1))]) zr_198_27 (Nat.le_of_ble_eq_true rfl) rfl ?_
              have lp29_16 : ∀ (nlp29_16 : Nat) (i14 i15 : Int), (-2147483648) ≤ i14 → i14 ≤ 2147483647 → 1 ≤ i15 → i15 ≤ 10 → (10 - i15).toNat < nlp29_16 → zW E (d) 198 29 [(2, 69), (0, i14), (0, i2), (0, i9), (0, i15)] [] m0 Q := by
                intro nlp29_16
                induction nlp29_16 with
                | zero =>
                  intros
                  exact absurd (by assumption : _ < 0) (Nat.not_lt_zero _)
                | succ nlp29_16 ihlp29_16 =>
                  intro i14 i15 li14 ui14 li15 ui15 hmlp29_16
                  refine zw_4 zr_198_29 rfl ?_
                  refine zw_7 zr_198_31 rfl ?_
                  refine zw_C zr_198_32 (Or.inl rfl) zm_141 rfl rfl ⟨Nat.le_of_ble_eq_true rfl, Nat.le_of_ble_eq_true rfl, Nat.le_of_ble_eq_true rfl, rfl, by decide⟩ (by omega) (P := (fun v m' => zW E (d) 198 35 [(2, 69), (0, i14), (0, i2), (0, i9), (0, i15)] (if v.1 = 9 then [(0, i15)] else v :: [(0, i15)]) m' Q)) ?_ (fun _ _ h => h)
                  generalize hQ1 : (fun v m' => zW E (d) 198 35 [(2, 69), (0, i14), (0, i2), (0, i9), (0, i15)] (if v.1 = 9 then [(0, i15)] else v :: [(0, i15)]) m' Q) = Q1
                  show zW E (d - 1) 141 0 [(2, 69)] [] m0 Q1
                  refine zw_7 zr_141_0 rfl ?_
                  refine zw_46r (s := 70) zr_141_1 rfl rfl rfl rfl ?_
                  refine zw_push zr_141_4 ?_
                  refine zw_48k (c := 70) (len := 826) zr_141_7 rfl rfl (by omega) (by omega) (show (822 : Int).toNat = 822 by omega) ef5 ?_
                  refine zw_R zr_141_8 (by decide) zm_141 (v := (0, f5)) rfl ?_
                  rw [← hQ1]
                  show zW E (d) 198 35 [(2, 69), (0, i14), (0, i2), (0, i9), (0, i15)] [(0, f5), (0, i15)] m0 Q
                  refine zw_41_3 zr_198_35 ?_ ?_
                  · intro h18
                    refine zw_15 (c := 1) (L' := [(2, 69), (0, i14), (0, i2), (0, (i9 + 1)), (0, i15)]) zr_198_87 rfl (by decide) (by omega) rfl ?_
                    refine zw_42 zr_198_90 ?_
                    exact zw_less (L := [(2, 69), (0, i14), (0, i2), (0, (i9 + 1)), (9, 0)]) ⟨Or.inr rfl, Or.inr rfl, Or.inr rfl, Or.inr rfl, Or.inl rfl, trivial⟩ (ihlp16_10 (i14) ((i9 + 1))  (by omega) (by omega) (by omega) (by omega)  (by omega))
                  · intro h19
                    refine zw_3 zr_198_38 rfl ?_
                    refine zw_3 zr_198_39 rfl ?_
                    refine zw_4 zr_198_40 rfl ?_
                    refine zw_41_1 zr_198_42 ?_ ?_
                    · intro h20
                      refine zw_push zr_198_78 ?_
                      refine zw_16 zr_198_79 (by omega) ?_
                      refine zw_9 (L' := [(2, 69), (0, (i14 + 0)), (0, i2), (0, i9), (0, i15)]) zr_198_80 (Nat.le_of_ble_eq_true rfl) rfl ?_
                      refine zw_15 (c := 1) (L' := [(2, 69), (0, (i14 + 0)), (0, i2), (0, i9), (0, (i15 + 1))]) zr_198_81 rfl (by decide) (by omega) rfl ?_
                      refine zw_42 zr_198_84 ?_
                      exact zw_less (L := [(2, 69), (0, (i14 + 0)), (0, i2), (0, i9), (0, (i15 + 1))]) ⟨Or.inr rfl, Or.inr rfl, Or.inr rfl, Or.inr rfl, Or.inr rfl, trivial⟩ (ihlp29_16 ((i14 + 0)) ((i15 + 1))  (by omega) (by omega) (by omega) (by omega)  (by omega))
                    · intro h21
                      refine zw_7 zr_198_45 rfl ?_
                      refine zw_3 zr_198_46 rfl ?_
                      refine zw_3 zr_198_47 rfl ?_
                      refine zw_C zr_198_48 (Or.inl rfl) zm_197 rfl rfl ⟨Nat.le_of_ble_eq_true rfl, Nat.le_of_ble_eq_true rfl, Nat.le_of_ble_eq_true rfl, rfl, by decide⟩ (by omega) (th_197 (d := d - 1) (by omega) hI0 (a0 := i2) (a1 := i9)      (by omega) (by omega) ) ?_
                      rintro _ _ ⟨r22, rfl, hr22a, hr22b, rfl⟩
                      show zW E (d) 198 51 [(2, 69), (0, i14), (0, i2), (0, i9), (0, i15)] [(0, r22), (0, i14)] m0 Q
                      refine zw_40_1 zr_198_51 ?_ ?_
                      · intro h23
                        refine zw_push zr_198_78 ?_
                        refine zw_16 zr_198_79 (by omega) ?_
                        refine zw_9 (L' := [(2, 69), (0, (i14 + 0)), (0, i2), (0, i9), (0, i15)]) zr_198_80 (Nat.le_of_ble_eq_true rfl) rfl ?_
                        refine zw_15 (c := 1) (L' := [(2, 69), (0, (i14 + 0)), (0, i2), (0, i9), (0, (i15 + 1))]) zr_198_81 rfl (by decide) (by omega) rfl ?_
                        refine zw_42 zr_198_84 ?_
                        exact zw_less (L := [(2, 69), (0, (i14 + 0)), (0, i2), (0, i9), (0, (i15 + 1))]) ⟨Or.inr rfl, Or.inr rfl, Or.inr rfl, Or.inr rfl, Or.inr rfl, trivial⟩ (ihlp29_16 ((i14 + 0)) ((i15 + 1))  (by omega) (by omega) (by omega) (by omega)  (by omega))
                      · intro h24
                        refine zw_7 zr_198_54 rfl ?_
                        refine zw_3 zr_198_55 rfl ?_
                        refine zw_4 zr_198_56 rfl ?_
                        refine zw_C zr_198_58 (Or.inl rfl) zm_197 rfl rfl ⟨Nat.le_of_ble_eq_true rfl, Nat.le_of_ble_eq_true rfl, Nat.le_of_ble_eq_true rfl, rfl, by decide⟩ (by omega) (th_197 (d := d - 1) (by omega) hI0 (a0 := i9) (a1 := i15)      (by omega) (by omega) ) ?_
                        rintro _ _ ⟨r25, rfl, hr25a, hr25b, rfl⟩
                        show zW E (d) 198 61 [(2, 69), (0, i14), (0, i2), (0, i9), (0, i15)] [(0, r25), (0, i14)] m0 Q
                        refine zw_40_1 zr_198_61 ?_ ?_
                        · intro h26
                          refine zw_push zr_198_78 ?_
                          refine zw_16 zr_198_79 (by omega) ?_
                          refine zw_9 (L' := [(2, 69), (0, (i14 + 0)), (0, i2), (0, i9), (0, i15)]) zr_198_80 (Nat.le_of_ble_eq_true rfl) rfl ?_
                          refine zw_15 (c := 1) (L' := [(2, 69), (0, (i14 + 0)), (0, i2), (0, i9), (0, (i15 + 1))]) zr_198_81 rfl (by decide) (by omega) rfl ?_
                          refine zw_42 zr_198_84 ?_
                          exact zw_less (L := [(2, 69), (0, (i14 + 0)), (0, i2), (0, i9), (0, (i15 + 1))]) ⟨Or.inr rfl, Or.inr rfl, Or.inr rfl, Or.inr rfl, Or.inr rfl, trivial⟩ (ihlp29_16 ((i14 + 0)) ((i15 + 1))  (by omega) (by omega) (by omega) (by omega)  (by omega))
                        · intro h27
                          refine zw_7 zr_198_64 rfl ?_
                          refine zw_4 zr_198_65 rfl ?_
                          refine zw_3 zr_198_67 rfl ?_
                          refine zw_C zr_198_68 (Or.inl rfl) zm_197 rfl rfl ⟨Nat.le_of_ble_eq_true rfl, Nat.le_of_ble_eq_true rfl, Nat.le_of_ble_eq_true rfl, rfl, by decide⟩ (by omega) (th_197 (d := d - 1) (by omega) hI0 (a0 := i15) (a1 := i2)      (by omega) (by omega) ) ?_
                          rintro _ _ ⟨r28, rfl, hr28a, hr28b, rfl⟩
                          show zW E (d) 198 71 [(2, 69), (0, i14), (0, i2), (0, i9), (0, i15)] [(0, r28), (0, i14)] m0 Q
                          refine zw_40_1 zr_198_71 ?_ ?_
                          · intro h29
                            refine zw_push zr_198_78 ?_
                            refine zw_16 zr_198_79 (by omega) ?_
                            refine zw_9 (L' := [(2, 69), (0, (i14 + 0)), (0, i2), (0, i9), (0, i15)]) zr_198_80 (Nat.le_of_ble_eq_true rfl) rfl ?_
                            refine zw_15 (c := 1) (L' := [(2, 69), (0, (i14 + 0)), (0, i2), (0, i9), (0, (i15 + 1))]) zr_198_81 rfl (by decide) (by omega) rfl ?_
                            refine zw_42 zr_198_84 ?_
                            exact zw_less (L := [(2, 69), (0, (i14 + 0)), (0, i2), (0, i9), (0, (i15 + 1))]) ⟨Or.inr rfl, Or.inr rfl, Or.inr rfl, Or.inr rfl, Or.inr rfl, trivial⟩ (ihlp29_16 ((i14 + 0)) ((i15 + 1))  (by omega) (by omega) (by omega) (by omega)  (by omega))
                          · intro h30
                            refine zw_push zr_198_74 ?_
                            refine zw_42 zr_198_75 ?_
                            refine zw_16h zr_198_79 ?_
                            intro x31 hx31a hx31b
                            refine zw_9 (L' := [(2, 69), (0, x31), (0, i2), (0, i9), (0, i15)]) zr_198_80 (Nat.le_of_ble_eq_true rfl) rfl ?_
                            refine zw_15 (c := 1) (L' := [(2, 69), (0, x31), (0, i2), (0, i9), (0, (i15 + 1))]) zr_198_81 rfl (by decide) (by omega) rfl ?_
                            refine zw_42 zr_198_84 ?_
                            exact zw_less (L := [(2, 69), (0, x31), (0, i2), (0, i9), (0, (i15 + 1))]) ⟨Or.inr rfl, Or.inr rfl, Or.inr rfl, Or.inr rfl, Or.inr rfl, trivial⟩ (ihlp29_16 (x31) ((i15 + 1))  (by omega) (by omega) (by omega) (by omega)  (by omega))
              exact lp29_16 _ (i8) ((i2 + 1))  (by omega) (by omega) (by omega) (by omega)  (Nat.lt_succ_self _)
        exact lp16_10 _ (i1) ((i2 + 1))  (by omega) (by omega) (by omega) (by omega)  (Nat.lt_succ_self _)
  exact lp4_3 _ (0) (0)  (by omega) (by omega) (by omega) (by omega)  (Nat.lt_succ_self _)

abbrev W_4_68 : List (Nat × Nat) := [(68, 1000)]
set_option maxHeartbeats 8000000 in
theorem th_4_68 {E : zE} {d : Nat} {m0 : zM} {a0 : Int} (hd : 1 ≤ d) (hI0 : zInv m0) (ha0 : 0 ≤ a0 ∧ a0 ≤ 0) : zC E d 4 [(2, 68), (0, a0)] m0 (fun v m' => v = (9, 0) ∧ zInv m' ∧ zFr W_4_68 m0 m') := by
  have hF0 : zFr W_4_68 m0 m0 := zFr.rfl
  generalize hQ : (fun (v : zV) (m' : zM) => v = (9, 0) ∧ zInv m' ∧ zFr W_4_68 m0 m') = Q
  show zW E d 4 0 [(2, 68), (0, a0), (9, 0), (9, 0)] [] m0 Q
  refine zw_push zr_4_0 ?_
  refine zw_9 (L' := [(2, 68), (0, a0), (0, 0), (9, 0)]) zr_4_1 (Nat.le_of_ble_eq_true rfl) rfl ?_
  refine zw_7 zr_4_2 rfl ?_
  refine zw_101 (c := 68) (len := 11) zr_4_3 rfl rfl (by decide) ?_
  refine zw_9 (L' := [(2, 68), (0, a0), (0, 0), (0, 11)]) zr_4_4 (Nat.le_of_ble_eq_true rfl) rfl ?_
  have lp5_3 : ∀ (nlp5_3 : Nat) (i1 : Int) (m2 : zM), zInv m2 → zFr W_4_68 m0 m2 → 0 ≤ i1 → i1 ≤ 11 → (11 - i1).toNat < nlp5_3 → zW E (d) 4 5 [(2, 68), (0, a0), (0, i1), (0, 11)] [] m2 Q := by
    intro nlp5_3
    induction nlp5_3 with
    | zero =>
      intros
      exact absurd (by assumption : _ < 0) (Nat.not_lt_zero _)
    | succ nlp5_3 ihlp5_3 =>
      intro i1 m2 hIm2 hFm2 li1 ui1 hmlp5_3
      refine zw_3 zr_4_5 rfl ?_
      refine zw_3 zr_4_6 rfl ?_
      refine zw_41_3 zr_4_7 ?_ ?_
      · intro h5
        refine zw_R zr_4_20 (by decide) zm_4 (v := (9, 0)) rfl ?_
        rw [← hQ]; exact ⟨rfl, hIm2, hFm2⟩
      · intro h6
        refine zw_7 zr_4_10 rfl ?_
        refine zw_3 zr_4_11 rfl ?_
        refine zw_3 zr_4_12 rfl ?_
        refine zw_49 (c := 68) (len := 11) zr_4_13 rfl rfl (by omega) (by omega) ?_
        intro m7 em7
        have hIm7 : zInv m7 := by rw [em7]; exact hIm2.any (by omega) rfl (by decide) (by decide)
        have hFm7 : zFr W_4_68 m0 m7 := by rw [em7]; exact hFm2.any rfl
        clear em7
        refine zw_15 (c := 1) (L' := [(2, 68), (0, a0), (0, (i1 + 1)), (0, 11)]) zr_4_14 rfl (by decide) (by omega) rfl ?_
        refine zw_42 zr_4_17 ?_
        exact zw_less (L := [(2, 68), (0, a0), (0, (i1 + 1)), (0, 11)]) ⟨Or.inr rfl, Or.inr rfl, Or.inr rfl, Or.inr rfl, trivial⟩ (ihlp5_3 ((i1 + 1)) m7 hIm7 hFm7   (by omega) (by omega)  (by omega))
  exact lp5_3 _ (0) m0 hI0 hF0   (by omega) (by omega)  (Nat.lt_succ_self _)

abbrev W_94 : List (Nat × Nat) := [(68, 1000)]
set_option maxHeartbeats 8000000 in
theorem th_94 {E : zE} {d : Nat} {m0 : zM} (hd : 2 ≤ d) (hI0 : zInv m0) : zC E d 94 [(2, 63)] m0 (fun v m' => v = (9, 0) ∧ zInv m' ∧ zFr W_94 m0 m') := by
  have hF0 : zFr W_94 m0 m0 := zFr.rfl
  generalize hQ : (fun (v : zV) (m' : zM) => v = (9, 0) ∧ zInv m' ∧ zFr W_94 m0 m') = Q
  show zW E d 94 0 [(2, 63), (9, 0), (9, 0)] [] m0 Q
  refine zw_7 zr_94_0 rfl ?_
  refine zw_46r (s := 68) zr_94_1 rfl rfl rfl rfl ?_
  refine zw_push zr_94_4 ?_
  refine zw_C zr_94_5 (Or.inr rfl) zm_4 rfl rfl ⟨Nat.le_of_ble_eq_true rfl, Nat.le_of_ble_eq_true rfl, Nat.le_of_ble_eq_true rfl, rfl, by decide⟩ (by omega) (th_4_68 (d := d - 1) (by omega) hI0 (a0 := 0)      (by omega) ) ?_
  rintro _ m1 ⟨rfl, hIm1, gm1⟩
  have hFm1 : zFr W_94 m0 m1 := hF0.trans gm1 rfl
  show zW E (d) 94 8 [(2, 63), (9, 0), (9, 0)] [] m1 Q
  refine zw_7 zr_94_8 rfl ?_
  refine zw_46r (s := 1) zr_94_9 rfl rfl rfl rfl ?_
  obtain ⟨f2, ef2⟩ : ∃ v, m1 1 0 = v := ⟨_, rfl⟩
  have bf2 := ib_1_0 hIm1
  rw [ef2] at bf2
  refine zw_46i zr_94_12 ef2 rfl rfl rfl ?_
  refine zw_push zr_94_15 ?_
  refine zw_17 zr_94_16 (by omega) ?_
  refine zw_9 (L' := [(2, 63), (0, (f2 - 1)), (9, 0)]) zr_94_17 (Nat.le_of_ble_eq_true rfl) rfl ?_
  have lp18_5 : ∀ (nlp18_5 : Nat) (i3 : Int) (m4 : zM), zInv m4 → zFr W_94 m0 m4 → m4 1 0 = f2 → (-1) ≤ i3 → i3 ≤ 9 → (i3 - (-1)).toNat < nlp18_5 → zW E (d) 94 18 [(2, 63), (0, i3), (9, 0)] [] m4 Q := by
    intro nlp18_5
    induction nlp18_5 with
    | zero =>
      intros
      exact absurd (by assumption : _ < 0) (Nat.not_lt_zero _)
    | succ nlp18_5 ihlp18_5 =>
      intro i3 m4 hIm4 hFm4 km4_1_0 li3 ui3 hmlp18_5
      refine zw_3 zr_94_18 rfl ?_
      refine zw_40_0 zr_94_19 ?_ ?_
      · intro h7
        refine zw_R zr_94_79 (by decide) zm_94 (v := (9, 0)) rfl ?_
        rw [← hQ]; exact ⟨rfl, hIm4, hFm4⟩
      · intro h8
        refine zw_7 zr_94_22 rfl ?_
        refine zw_46r (s := 68) zr_94_23 rfl rfl rfl rfl ?_
        refine zw_3 zr_94_26 rfl ?_
        refine zw_7 zr_94_27 rfl ?_
        refine zw_46r (s := 68) zr_94_28 rfl rfl rfl rfl ?_
        refine zw_3 zr_94_31 rfl ?_
        refine zw_push zr_94_32 ?_
        refine zw_16 zr_94_33 (by omega) ?_
        refine zw_48 (c := 68) (len := 11) zr_94_34 rfl rfl (by omega) (by omega) ?_
        intro x9 ex9
        have bx9 := hIm4.ra (c := 68) (len := 11) (k := ((i3 + 1)).toNat) rfl (by omega)
        rw [← ex9] at bx9
        clear ex9
        refine zw_49 (c := 68) (len := 11) zr_94_35 rfl rfl (by omega) (by omega) ?_
        intro m10 em10
        have hIm10 : zInv m10 := by rw [em10]; exact hIm4.any (by omega) rfl (by decide) (by decide)
        have hFm10 : zFr W_94 m0 m10 := by rw [em10]; exact hFm4.any rfl
        have km10_1_0 : m10 1 0 = f2 := by rw [em10, zUp_ne (by omega)]; exact km4_1_0
        clear em10
        refine zw_push zr_94_36 ?_
        refine zw_9 (L' := [(2, 63), (0, i3), (0, 0)]) zr_94_37 (Nat.le_of_ble_eq_true rfl) rfl ?_
        have lp38_13 : ∀ (nlp38_13 : Nat) (i11 : Int) (m12 : zM), zInv m12 → zFr W_94 m0 m12 → m12 1 0 = f2 → 0 ≤ i11 → i11 ≤ 9 → (9 - i11).toNat < nlp38_13 → zW E (d) 94 38 [(2, 63), (0, i3), (0, i11)] [] m12 Q := by
          intro nlp38_13
          induction nlp38_13 with
          | zero =>
            intros
            exact absurd (by assumption : _ < 0) (Nat.not_lt_zero _)
          | succ nlp38_13 ihlp38_13 =>
            intro i11 m12 hIm12 hFm12 km12_1_0 li11 ui11 hmlp38_13
            refine zw_3 zr_94_38 rfl ?_
            refine zw_3 zr_94_39 rfl ?_
            refine zw_41_3 zr_94_40 ?_ ?_
            · intro h15
              refine zw_15 (c := (-1)) (L' := [(2, 63), (0, (i3 + (-1))), (0, i11)]) zr_94_73 rfl (by decide) (by omega) rfl ?_
              refine zw_42 zr_94_76 ?_
              exact zw_less (L := [(2, 63), (0, (i3 + (-1))), (9, 0)]) ⟨Or.inr rfl, Or.inr rfl, Or.inl rfl, trivial⟩ (ihlp18_5 ((i3 + (-1))) m12 hIm12 hFm12  km12_1_0 (by omega) (by omega)  (by omega))
            · intro h16
              refine zw_7 zr_94_43 rfl ?_
              refine zw_46r (s := 68) zr_94_44 rfl rfl rfl rfl ?_
              refine zw_3 zr_94_47 rfl ?_
              refine zw_45 zr_94_48 ⟨rfl, rfl⟩ ?_
              refine zw_48 (c := 68) (len := 11) zr_94_49 rfl rfl (by omega) (by omega) ?_
              intro x17 ex17
              have bx17 := hIm12.ra (c := 68) (len := 11) (k := (i3).toNat) rfl (by omega)
              rw [← ex17] at bx17
              clear ex17
              refine zw_7 zr_94_50 rfl ?_
              refine zw_3 zr_94_51 rfl ?_
              refine zw_3 zr_94_52 rfl ?_
              refine zw_C zr_94_53 (Or.inl rfl) zm_91 rfl rfl ⟨Nat.le_of_ble_eq_true rfl, Nat.le_of_ble_eq_true rfl, Nat.le_of_ble_eq_true rfl, rfl, by decide⟩ (by omega) (P := (fun v m' => zW E (d) 94 56 [(2, 63), (0, i3), (0, i11)] (if v.1 = 9 then [(0, x17), (0, i3), (2, 68)] else v :: [(0, x17), (0, i3), (2, 68)]) m' Q)) ?_ (fun _ _ h => h)
              generalize hQ1 : (fun v m' => zW E (d) 94 56 [(2, 63), (0, i3), (0, i11)] (if v.1 = 9 then [(0, x17), (0, i3), (2, 68)] else v :: [(0, x17), (0, i3), (2, 68)]) m' Q) = Q1
              show zW E (d - 1) 91 0 [(2, 63), (0, i3), (0, i11)] [] m12 Q1
              refine zw_7 zr_91_0 rfl ?_
              refine zw_46r (s := 65) zr_91_1 rfl rfl rfl rfl ?_
              refine zw_3 zr_91_4 rfl ?_
              refine zw_push zr_91_5 ?_
              refine zw_18 zr_91_7 (by omega) ?_
              refine zw_3 zr_91_8 rfl ?_
              refine zw_16 zr_91_9 (by omega) ?_
              refine zw_48 (c := 65) (len := 100) zr_91_10 rfl rfl (by omega) (by omega) ?_
              intro x18 ex18
              have bx18 := hIm12.ra (c := 65) (len := 100) (k := (((i3 * 10) + i11)).toNat) rfl (by omega)
              rw [← ex18] at bx18
              clear ex18
              refine zw_R zr_91_11 (by decide) zm_91 (v := (0, x18)) rfl ?_
              rw [← hQ1]
              show zW E (d) 94 56 [(2, 63), (0, i3), (0, i11)] [(0, x18), (0, x17), (0, i3), (2, 68)] m12 Q
              refine zw_7 zr_94_56 rfl ?_
              refine zw_3 zr_94_57 rfl ?_
              refine zw_3 zr_94_58 rfl ?_
              refine zw_C zr_94_59 (Or.inl rfl) zm_91 rfl rfl ⟨Nat.le_of_ble_eq_true rfl, Nat.le_of_ble_eq_true rfl, Nat.le_of_ble_eq_true rfl, rfl, by decide⟩ (by omega) (P := (fun v m' => zW E (d) 94 62 [(2, 63), (0, i3), (0, i11)] (if v.1 = 9 then [(0, x18), (0, x17), (0, i3), (2, 68)] else v :: [(0, x18), (0, x17), (0, i3), (2, 68)]) m' Q)) ?_ (fun _ _ h => h)
              generalize hQ1 : (fun v m' => zW E (d) 94 62 [(2, 63), (0, i3), (0, i11)] (if v.1 = 9 then [(0, x18), (0, x17), (0, i3), (2, 68)] else v :: [(0, x18), (0, x17), (0, i3), (2, 68)]) m' Q) = Q1
              show zW E (d - 1) 91 0 [(2, 63), (0, i11), (0, i3)] [] m12 Q1
              refine zw_7 zr_91_0 rfl ?_
              refine zw_46r (s := 65) zr_91_1 rfl rfl rfl rfl ?_
              refine zw_3 zr_91_4 rfl ?_
              refine zw_push zr_91_5 ?_
              refine zw_18 zr_91_7 (by omega) ?_
              refine zw_3 zr_91_8 rfl ?_
              refine zw_16 zr_91_9 (by omega) ?_
              refine zw_48 (c := 65) (len := 100) zr_91_10 rfl rfl (by omega) (by omega) ?_
              intro x19 ex19
              have bx19 := hIm12.ra (c := 65) (len := 100) (k := (((i11 * 10) + i3)).toNat) rfl (by omega)
              rw [← ex19] at bx19
              clear ex19
              refine zw_R zr_91_11 (by decide) zm_91 (v := (0, x19)) rfl ?_
              rw [← hQ1]
              show zW E (d) 94 62 [(2, 63), (0, i3), (0, i11)] [(0, x19), (0, x18), (0, x17), (0, i3), (2, 68)] m12 Q
              refine zw_120 zr_94_62 (Nat.le_of_ble_eq_true rfl) (by omega) (by omega) (by omega) ?_
              intro x20 hx20a hx20b hx20c
              refine zw_16h zr_94_65 ?_
              intro x21 hx21a hx21b
              refine zw_49 (c := 68) (len := 11) zr_94_66 rfl rfl (by omega) (by omega) ?_
              intro m22 em22
              have hIm22 : zInv m22 := by rw [em22]; exact hIm12.any (by omega) rfl (by decide) (by decide)
              have hFm22 : zFr W_94 m0 m22 := by rw [em22]; exact hFm12.any rfl
              have km22_1_0 : m22 1 0 = f2 := by rw [em22, zUp_ne (by omega)]; exact km12_1_0
              clear em22
              refine zw_15 (c := 1) (L' := [(2, 63), (0, i3), (0, (i11 + 1))]) zr_94_67 rfl (by decide) (by omega) rfl ?_
              refine zw_42 zr_94_70 ?_
              exact zw_less (L := [(2, 63), (0, i3), (0, (i11 + 1))]) ⟨Or.inr rfl, Or.inr rfl, Or.inr rfl, trivial⟩ (ihlp38_13 ((i11 + 1)) m22 hIm22 hFm22  km22_1_0 (by omega) (by omega)  (by omega))
        exact lp38_13 _ (0) m10 hIm10 hFm10  km10_1_0 (by omega) (by omega)  (Nat.lt_succ_self _)
  exact lp18_5 _ ((f2 - 1)) m1 hIm1 hFm1  ef2 (by omega) (by omega)  (Nat.lt_succ_self _)

abbrev W_95 : List (Nat × Nat) := [(67, 1000)]
set_option maxHeartbeats 8000000 in
theorem th_95 {E : zE} {d : Nat} {m0 : zM} {a0 : Int} (hd : 2 ≤ d) (hI0 : zInv m0) (ha0 : 0 ≤ a0 ∧ a0 ≤ 9) : zC E d 95 [(2, 63), (0, a0)] m0 (fun v m' => v = (9, 0) ∧ zInv m' ∧ zFr W_95 m0 m') := by
  have hF0 : zFr W_95 m0 m0 := zFr.rfl
  generalize hQ : (fun (v : zV) (m' : zM) => v = (9, 0) ∧ zInv m' ∧ zFr W_95 m0 m') = Q
  show zW E d 95 0 [(2, 63), (0, a0), (9, 0)] [] m0 Q
  refine zw_push zr_95_0 ?_
  refine zw_9 (L' := [(2, 63), (0, a0), (0, 0)]) zr_95_1 (Nat.le_of_ble_eq_true rfl) rfl ?_
  have lp2_3 : ∀ (nlp2_3 : Nat) (i1 : Int) (m2 : zM), zInv m2 → zFr W_95 m0 m2 → 0 ≤ i1 → i1 ≤ 3 → (3 - i1).toNat < nlp2_3 → zW E (d) 95 2 [(2, 63), (0, a0), (0, i1)] [] m2 Q := by
    intro nlp2_3
    induction nlp2_3 with
    | zero =>
      intros
      exact absurd (by assumption : _ < 0) (Nat.not_lt_zero _)
    | succ nlp2_3 ihlp2_3 =>
      intro i1 m2 hIm2 hFm2 li1 ui1 hmlp2_3
      refine zw_3 zr_95_2 rfl ?_
      refine zw_push zr_95_3 ?_
      refine zw_41_3 zr_95_4 ?_ ?_
      · intro h5
        refine zw_push zr_95_24 ?_
        refine zw_9 (L' := [(2, 63), (0, a0), (0, 0)]) zr_95_25 (Nat.le_of_ble_eq_true rfl) rfl ?_
        have lp26_8 : ∀ (nlp26_8 : Nat) (i6 : Int) (m7 : zM), zInv m7 → zFr W_95 m0 m7 → 0 ≤ i6 → i6 ≤ 9 → (9 - i6).toNat < nlp26_8 → zW E (d) 95 26 [(2, 63), (0, a0), (0, i6)] [] m7 Q := by
          intro nlp26_8
          induction nlp26_8 with
          | zero =>
            intros
            exact absurd (by assumption : _ < 0) (Nat.not_lt_zero _)
          | succ nlp26_8 ihlp26_8 =>
            intro i6 m7 hIm7 hFm7 li6 ui6 hmlp26_8
            refine zw_3 zr_95_26 rfl ?_
            refine zw_3 zr_95_27 rfl ?_
            refine zw_41_3 zr_95_28 ?_ ?_
            · intro h10
              refine zw_R zr_95_93 (by decide) zm_95 (v := (9, 0)) rfl ?_
              rw [← hQ]; exact ⟨rfl, hIm7, hFm7⟩
            · intro h11
              refine zw_7 zr_95_31 rfl ?_
              refine zw_46r (s := 67) zr_95_32 rfl rfl rfl rfl ?_
              refine zw_3 zr_95_35 rfl ?_
              refine zw_push zr_95_36 ?_
              refine zw_18 zr_95_37 (by omega) ?_
              refine zw_7 zr_95_38 rfl ?_
              refine zw_46r (s := 66) zr_95_39 rfl rfl rfl rfl ?_
              refine zw_3 zr_95_42 rfl ?_
              refine zw_48 (c := 66) (len := 10) zr_95_43 rfl rfl (by omega) (by omega) ?_
              intro x12 ex12
              have bx12 := ib_66 hIm7 (k := (i6).toNat) (by omega)
              rw [← ex12] at bx12
              clear ex12
              refine zw_push zr_95_44 ?_
              refine zw_16 zr_95_45 (by omega) ?_
              refine zw_push zr_95_46 ?_
              refine zw_20 zr_95_47 (by omega) (by omega) (by omega) (by omega) ?_
              refine zw_16 zr_95_48 (by omega) ?_
              refine zw_45 zr_95_49 ⟨rfl, rfl⟩ ?_
              refine zw_48 (c := 67) (len := 30) zr_95_50 rfl rfl (by omega) (by omega) ?_
              intro x13 ex13
              have bx13 := hIm7.ra (c := 67) (len := 30) (k := (((a0 * 3) + ((x12 + 1) % 3))).toNat) rfl (by omega)
              rw [← ex13] at bx13
              clear ex13
              refine zw_7 zr_95_51 rfl ?_
              refine zw_3 zr_95_52 rfl ?_
              refine zw_3 zr_95_53 rfl ?_
              refine zw_C zr_95_54 (Or.inl rfl) zm_91 rfl rfl ⟨Nat.le_of_ble_eq_true rfl, Nat.le_of_ble_eq_true rfl, Nat.le_of_ble_eq_true rfl, rfl, by decide⟩ (by omega) (P := (fun v m' => zW E (d) 95 57 [(2, 63), (0, a0), (0, i6)] (if v.1 = 9 then [(0, x13), (0, ((a0 * 3) + ((x12 + 1) % 3))), (2, 67)] else v :: [(0, x13), (0, ((a0 * 3) + ((x12 + 1) % 3))), (2, 67)]) m' Q)) ?_ (fun _ _ h => h)
              generalize hQ1 : (fun v m' => zW E (d) 95 57 [(2, 63), (0, a0), (0, i6)] (if v.1 = 9 then [(0, x13), (0, ((a0 * 3) + ((x12 + 1) % 3))), (2, 67)] else v :: [(0, x13), (0, ((a0 * 3) + ((x12 + 1) % 3))), (2, 67)]) m' Q) = Q1
              show zW E (d - 1) 91 0 [(2, 63), (0, i6), (0, a0)] [] m7 Q1
              refine zw_7 zr_91_0 rfl ?_
              refine zw_46r (s := 65) zr_91_1 rfl rfl rfl rfl ?_
              refine zw_3 zr_91_4 rfl ?_
              refine zw_push zr_91_5 ?_
              refine zw_18 zr_91_7 (by omega) ?_
              refine zw_3 zr_91_8 rfl ?_
              refine zw_16 zr_91_9 (by omega) ?_
              refine zw_48 (c := 65) (len := 100) zr_91_10 rfl rfl (by omega) (by omega) ?_
              intro x14 ex14
              have bx14 := hIm7.ra (c := 65) (len := 100) (k := (((i6 * 10) + a0)).toNat) rfl (by omega)
              rw [← ex14] at bx14
              clear ex14
              refine zw_R zr_91_11 (by decide) zm_91 (v := (0, x14)) rfl ?_
              rw [← hQ1]
              show zW E (d) 95 57 [(2, 63), (0, a0), (0, i6)] [(0, x14), (0, x13), (0, ((a0 * 3) + ((x12 + 1) % 3))), (2, 67)] m7 Q
              refine zw_16h zr_95_57 ?_
              intro x15 hx15a hx15b
              refine zw_49 (c := 67) (len := 30) zr_95_58 rfl rfl (by omega) (by omega) ?_
              intro m16 em16
              have hIm16 : zInv m16 := by rw [em16]; exact hIm7.any (by omega) rfl (by decide) (by decide)
              have hFm16 : zFr W_95 m0 m16 := by rw [em16]; exact hFm7.any rfl
              clear em16
              refine zw_7 zr_95_59 rfl ?_
              refine zw_46r (s := 67) zr_95_60 rfl rfl rfl rfl ?_
              refine zw_3 zr_95_63 rfl ?_
              refine zw_push zr_95_64 ?_
              refine zw_18 zr_95_65 (by omega) ?_
              refine zw_7 zr_95_66 rfl ?_
              refine zw_46r (s := 66) zr_95_67 rfl rfl rfl rfl ?_
              refine zw_3 zr_95_70 rfl ?_
              refine zw_48 (c := 66) (len := 10) zr_95_71 rfl rfl (by omega) (by omega) ?_
              intro x17 ex17
              have bx17 := ib_66 hIm16 (k := (i6).toNat) (by omega)
              rw [← ex17] at bx17
              clear ex17
              refine zw_push zr_95_72 ?_
              refine zw_16 zr_95_73 (by omega) ?_
              refine zw_push zr_95_74 ?_
              refine zw_20 zr_95_75 (by omega) (by omega) (by omega) (by omega) ?_
              refine zw_16 zr_95_76 (by omega) ?_
              refine zw_45 zr_95_77 ⟨rfl, rfl⟩ ?_
              refine zw_48 (c := 67) (len := 30) zr_95_78 rfl rfl (by omega) (by omega) ?_
              intro x18 ex18
              have bx18 := hIm16.ra (c := 67) (len := 30) (k := (((a0 * 3) + ((x17 + 2) % 3))).toNat) rfl (by omega)
              rw [← ex18] at bx18
              clear ex18
              refine zw_7 zr_95_79 rfl ?_
              refine zw_3 zr_95_80 rfl ?_
              refine zw_3 zr_95_81 rfl ?_
              refine zw_C zr_95_82 (Or.inl rfl) zm_91 rfl rfl ⟨Nat.le_of_ble_eq_true rfl, Nat.le_of_ble_eq_true rfl, Nat.le_of_ble_eq_true rfl, rfl, by decide⟩ (by omega) (P := (fun v m' => zW E (d) 95 85 [(2, 63), (0, a0), (0, i6)] (if v.1 = 9 then [(0, x18), (0, ((a0 * 3) + ((x17 + 2) % 3))), (2, 67)] else v :: [(0, x18), (0, ((a0 * 3) + ((x17 + 2) % 3))), (2, 67)]) m' Q)) ?_ (fun _ _ h => h)
              generalize hQ1 : (fun v m' => zW E (d) 95 85 [(2, 63), (0, a0), (0, i6)] (if v.1 = 9 then [(0, x18), (0, ((a0 * 3) + ((x17 + 2) % 3))), (2, 67)] else v :: [(0, x18), (0, ((a0 * 3) + ((x17 + 2) % 3))), (2, 67)]) m' Q) = Q1
              show zW E (d - 1) 91 0 [(2, 63), (0, a0), (0, i6)] [] m16 Q1
              refine zw_7 zr_91_0 rfl ?_
              refine zw_46r (s := 65) zr_91_1 rfl rfl rfl rfl ?_
              refine zw_3 zr_91_4 rfl ?_
              refine zw_push zr_91_5 ?_
              refine zw_18 zr_91_7 (by omega) ?_
              refine zw_3 zr_91_8 rfl ?_
              refine zw_16 zr_91_9 (by omega) ?_
              refine zw_48 (c := 65) (len := 100) zr_91_10 rfl rfl (by omega) (by omega) ?_
              intro x19 ex19
              have bx19 := hIm16.ra (c := 65) (len := 100) (k := (((a0 * 10) + i6)).toNat) rfl (by omega)
              rw [← ex19] at bx19
              clear ex19
              refine zw_R zr_91_11 (by decide) zm_91 (v := (0, x19)) rfl ?_
              rw [← hQ1]
              show zW E (d) 95 85 [(2, 63), (0, a0), (0, i6)] [(0, x19), (0, x18), (0, ((a0 * 3) + ((x17 + 2) % 3))), (2, 67)] m16 Q
              refine zw_16h zr_95_85 ?_
              intro x20 hx20a hx20b
              refine zw_49 (c := 67) (len := 30) zr_95_86 rfl rfl (by omega) (by omega) ?_
              intro m21 em21
              have hIm21 : zInv m21 := by rw [em21]; exact hIm16.any (by omega) rfl (by decide) (by decide)
              have hFm21 : zFr W_95 m0 m21 := by rw [em21]; exact hFm16.any rfl
              clear em21
              refine zw_15 (c := 1) (L' := [(2, 63), (0, a0), (0, (i6 + 1))]) zr_95_87 rfl (by decide) (by omega) rfl ?_
              refine zw_42 zr_95_90 ?_
              exact zw_less (L := [(2, 63), (0, a0), (0, (i6 + 1))]) ⟨Or.inr rfl, Or.inr rfl, Or.inr rfl, trivial⟩ (ihlp26_8 ((i6 + 1)) m21 hIm21 hFm21   (by omega) (by omega)  (by omega))
        exact lp26_8 _ (0) m2 hIm2 hFm2   (by omega) (by omega)  (Nat.lt_succ_self _)
      · intro h22
        refine zw_7 zr_95_7 rfl ?_
        refine zw_46r (s := 67) zr_95_8 rfl rfl rfl rfl ?_
        refine zw_3 zr_95_11 rfl ?_
        refine zw_push zr_95_12 ?_
        refine zw_18 zr_95_13 (by omega) ?_
        refine zw_3 zr_95_14 rfl ?_
        refine zw_16 zr_95_15 (by omega) ?_
        refine zw_push zr_95_16 ?_
        refine zw_49 (c := 67) (len := 30) zr_95_17 rfl rfl (by omega) (by omega) ?_
        intro m23 em23
        have hIm23 : zInv m23 := by rw [em23]; exact hIm2.any (by omega) rfl (by decide) (by decide)
        have hFm23 : zFr W_95 m0 m23 := by rw [em23]; exact hFm2.any rfl
        clear em23
        refine zw_15 (c := 1) (L' := [(2, 63), (0, a0), (0, (i1 + 1))]) zr_95_18 rfl (by decide) (by omega) rfl ?_
        refine zw_42 zr_95_21 ?_
        exact zw_less (L := [(2, 63), (0, a0), (0, (i1 + 1))]) ⟨Or.inr rfl, Or.inr rfl, Or.inr rfl, trivial⟩ (ihlp2_3 ((i1 + 1)) m23 hIm23 hFm23   (by omega) (by omega)  (by omega))
  exact lp2_3 _ (0) m0 hI0 hF0   (by omega) (by omega)  (Nat.lt_succ_self _)
